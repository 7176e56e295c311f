/-! unlike, the model -/
theorem x5 (a k : Nat) : (5 : Int32) * nI a + nI k = nI (5 * a + k) := by rw [show (5 : Int32) = nI 5 from rfl, nI_mul, nI_add]
theorem x6 (a k : Nat) : (6 : Int32) * nI a + nI k = nI (6 * a + k) := by rw [show (6 : Int32) = nI 6 from rfl, nI_mul, nI_add]
theorem x17 (a k : Nat) : (17 : Int32) * nI a + nI k = nI (17 * a + k) := by rw [show (17 : Int32) = nI 17 from rfl, nI_mul, nI_add]
theorem tN_inj {a b : Bool} : nI a.toNat = nI b.toNat ↔ a = b := by cases a <;> cases b <;> decide
set_option maxHeartbeats 8000000 in
theorem m_isSame {l : Launch} {G : GG} {h : AH} {nx : Nat} {Post : Option Value → AH → Nat → Prop} {o a b : Nat} {D E : DD} {fs : List Value} (hX : XC G ∧ TX l G) (hM : MA h o fs) (hD : MPg h o a D) (hE : MPg h o b E) (hw : WD D) (hv : WD E) (hP : Post (some (.int (nI (sameB D E).toNat))) h nx) : Runs l G i_X12_isSame 0 0 [.ref o, .int (nI a), .int (nI b)] h nx Post := by
  have ha := hD.2.2.2.2.2.2.2
  have hb := hE.2.2.2.2.2.2.2
  obtain ⟨⟨trk, gm, go, gn, gR, gL, gf, gt, gk, d8, d18, d20, d21, d10, d13, d23, d24, d27, hd5, pm, pK, pR, pR6, pL, pL5, po, pt, _⟩, _, _, ⟨gI, d7, pI⟩, ⟨gS, d11, pS⟩, ⟨gG, d14, pG⟩, ⟨⟨n9, d9, p9⟩, ⟨n12, d12, p12⟩, ⟨n15, d15, p15⟩, _⟩, _⟩ := id hD
  obtain ⟨⟨trk', gm', go', gn', gR', gL', gf', gt', gk', e8, e18, e20, e21, e10, e13, e23, e24, e27, he5, qm, qK, qR, qR6, qL, qL5, qo, qt, _⟩, _, _, ⟨gI', e7, qI⟩, ⟨gS', e11, qS⟩, ⟨gG', e14, qG⟩, ⟨⟨m9, e9, q9⟩, ⟨m12, e12, q12⟩, ⟨m15, e15, q15⟩, _⟩, _⟩ := id hE
  have hi := hw.i
  have hr := hw.r
  have hl := hw.l
  have hi2 := hv.i
  have hr2 := hv.r
  have hl2 := hv.l
  have no : ¬ sameP D E → Post (some (.int 0)) h nx := fun z => by
    have : sameB D E = false := by
      cases c : sameB D E with
      | false => rfl
      | true => exact absurd ((sameB_c hw hv).mp c) z
    rw [this] at hP
    exact hP
  have yes : sameP D E → Post (some (.int 1)) h nx := fun z => by
    rw [(sameB_c hw hv).mpr z] at hP
    exact hP
  have loop3 : dI D = dI E → dR D = dR E → dL D = dL E → (∀ k, k < dI D → dtr D k = dtr E k ∧ dnI D k = dnI E k) → (∀ k, k < dR D → dsl D k = dsl E k ∧ dnR D k = dnR E k) → ∀ (m k : Nat), k + m = dL D → (∀ j, j < k → dgr D j = dgr E j ∧ dnL D j = dnL E j) → Go l G 12 s_X12_isSame 0 0 Post 187 [(3, .int (nI k)), (0, .ref o), (1, .int (nI a)), (2, .int (nI b))] [] h nx 0 0 := by
    intro eI eR eL z1 z2 m
    induction m with
    | zero =>
      intro k hk hall
      have e : k = dL D := by omega
      subst e
      refine Go.of hX.2 ck_X12_isSame [187] 30 ?_
      refine Exists.intro _ (And.intro hM.1 (Exists.intro _ (And.intro (hM.2.2 13 (by decide)) ?_)))
      refine Exists.intro _ (Exists.intro _ (And.intro d13 (And.intro (vp_in_nI ha (by decide)) ?_)))
      rw [nI_clamp (show a < 2 ^ 31 by omega), pL]
      refine And.intro (fun _ => ?_) (fun cz => absurd (nI_le (Nat.le_refl _) (by omega)) cz)
      exact And.intro rfl ((yes ⟨eI, eR, eL, z1, z2, hall⟩))
    | succ m ih =>
      intro k hk hall
      have hkL : k < dL D := by omega
      refine Go.of hX.2 ck_X12_isSame [187] 80 ?_
      refine Exists.intro _ (And.intro hM.1 (Exists.intro _ (And.intro (hM.2.2 13 (by decide)) ?_)))
      refine Exists.intro _ (Exists.intro _ (And.intro d13 (And.intro (vp_in_nI ha (by decide)) ?_)))
      rw [nI_clamp (show a < 2 ^ 31 by omega), pL]
      refine And.intro (fun cz => absurd cz (nI_ge hkL (by omega))) (fun _ => ?_)
      refine Exists.intro _ (And.intro hM.1 (Exists.intro _ (And.intro (hM.2.2 14 (by decide)) ?_)))
      refine Exists.intro 3 (Exists.intro _ (Exists.intro _ (And.intro d14 (And.intro (Or.inr rfl) (And.intro (by rw [x5]; exact vp_in_nI (by omega) (by decide)) ?_)))))
      rw [x5, nI_clamp (show 5 * a + k < 2 ^ 31 by omega), pG k hkL]
      refine Exists.intro _ (And.intro hM.1 (Exists.intro _ (And.intro (hM.2.2 14 (by decide)) ?_)))
      refine Exists.intro 3 (Exists.intro _ (Exists.intro _ (And.intro e14 (And.intro (Or.inr rfl) (And.intro (by rw [x5]; exact vp_in_nI (by omega) (by decide)) ?_)))))
      rw [x5, nI_clamp (show 5 * b + k < 2 ^ 31 by omega), qG k (by omega)]
      by_cases c1 : dgr D k = dgr E k
      · refine And.intro (fun cz => absurd (tN_inj.mpr c1) cz) (fun _ => ?_)
        refine Exists.intro _ (And.intro hM.1 (Exists.intro _ (And.intro (hM.2.2 15 (by decide)) ?_)))
        refine Exists.intro _ (Exists.intro _ (And.intro d15 (And.intro (by rw [x5]; exact vp_in_nI (by omega) (by decide)) ?_)))
        rw [x5, nI_clamp (show 5 * a + k < 2 ^ 31 by omega), p15 k hkL]
        refine Exists.intro _ (And.intro hM.1 (Exists.intro _ (And.intro (hM.2.2 15 (by decide)) ?_)))
        refine Exists.intro _ (Exists.intro _ (And.intro e15 (And.intro (by rw [x5]; exact vp_in_nI (by omega) (by decide)) ?_)))
        rw [x5, nI_clamp (show 5 * b + k < 2 ^ 31 by omega), q15 k (by omega)]
        by_cases c2 : dnL D k = dnL E k
        · refine And.intro (fun _ => ?_) (fun cz => absurd (cmp_eq.mpr c2) cz)
          refine go_loc (lv' := [(3, .int (nI k + 1)), (0, .ref o), (1, .int (nI a)), (2, .int (nI b))]) ⟨rfl, rfl, rfl, rfl, trivial⟩ ?_
          rw [← nI_succ]
          exact ih (k + 1) (by omega) (fun j hj => by
            by_cases e : j = k
            · rw [e]; exact ⟨c1, c2⟩
            · exact hall j (by omega))
        · refine And.intro (fun cz => absurd cz (fun z => c2 (cmp_eq.mp z))) (fun _ => ?_)
          exact And.intro rfl ((no (fun z => c2 (z.2.2.2.2.2 k hkL).2)))
      · refine And.intro (fun _ => ?_) (fun cz => absurd cz (fun z => c1 (tN_inj.mp z)))
        exact And.intro rfl ((no (fun z => c1 (z.2.2.2.2.2 k hkL).1)))
  have loop2 : dI D = dI E → dR D = dR E → dL D = dL E → (∀ k, k < dI D → dtr D k = dtr E k ∧ dnI D k = dnI E k) → ∀ (m k : Nat), k + m = dR D → (∀ j, j < k → dsl D j = dsl E j ∧ dnR D j = dnR E j) → Go l G 12 s_X12_isSame 0 0 Post 116 [(3, .int (nI k)), (0, .ref o), (1, .int (nI a)), (2, .int (nI b))] [] h nx 0 0 := by
    intro eI eR eL z1 m
    induction m with
    | zero =>
      intro k hk hall
      have e : k = dR D := by omega
      subst e
      refine Go.of hX.2 ck_X12_isSame [187] 30 ?_
      refine Exists.intro _ (And.intro hM.1 (Exists.intro _ (And.intro (hM.2.2 10 (by decide)) ?_)))
      refine Exists.intro _ (Exists.intro _ (And.intro d10 (And.intro (vp_in_nI ha (by decide)) ?_)))
      rw [nI_clamp (show a < 2 ^ 31 by omega), pR]
      refine And.intro (fun _ => ?_) (fun cz => absurd (nI_le (Nat.le_refl _) (by omega)) cz)
      exact go_loc (lv' := [(3, .int (nI 0)), (0, .ref o), (1, .int (nI a)), (2, .int (nI b))]) ⟨rfl, rfl, rfl, rfl, trivial⟩ (loop3 eI eR eL z1 hall (dL D) 0 (Nat.zero_add _) (fun j hj => absurd hj (Nat.not_lt_zero j)))
    | succ m ih =>
      intro k hk hall
      have hkL : k < dR D := by omega
      have s1 := hw.s k hkL
      have s2 := hv.s k (by omega)
      refine Go.of hX.2 ck_X12_isSame [116] 80 ?_
      refine Exists.intro _ (And.intro hM.1 (Exists.intro _ (And.intro (hM.2.2 10 (by decide)) ?_)))
      refine Exists.intro _ (Exists.intro _ (And.intro d10 (And.intro (vp_in_nI ha (by decide)) ?_)))
      rw [nI_clamp (show a < 2 ^ 31 by omega), pR]
      refine And.intro (fun cz => absurd cz (nI_ge hkL (by omega))) (fun _ => ?_)
      refine Exists.intro _ (And.intro hM.1 (Exists.intro _ (And.intro (hM.2.2 11 (by decide)) ?_)))
      refine Exists.intro _ (Exists.intro _ (And.intro d11 (And.intro (by rw [x6]; exact vp_in_nI (by omega) (by decide)) ?_)))
      rw [x6, nI_clamp (show 6 * a + k < 2 ^ 31 by omega), pS k hkL]
      refine Exists.intro _ (And.intro hM.1 (Exists.intro _ (And.intro (hM.2.2 11 (by decide)) ?_)))
      refine Exists.intro _ (Exists.intro _ (And.intro e11 (And.intro (by rw [x6]; exact vp_in_nI (by omega) (by decide)) ?_)))
      rw [x6, nI_clamp (show 6 * b + k < 2 ^ 31 by omega), qS k (by omega)]
      by_cases c1 : dsl D k = dsl E k
      · refine And.intro (fun cz => absurd (show nI (dsl D k) = nI (dsl E k) from by rw [c1]) cz) (fun _ => ?_)
        refine Exists.intro _ (And.intro hM.1 (Exists.intro _ (And.intro (hM.2.2 12 (by decide)) ?_)))
        refine Exists.intro _ (Exists.intro _ (And.intro d12 (And.intro (by rw [x6]; exact vp_in_nI (by omega) (by decide)) ?_)))
        rw [x6, nI_clamp (show 6 * a + k < 2 ^ 31 by omega), p12 k hkL]
        refine Exists.intro _ (And.intro hM.1 (Exists.intro _ (And.intro (hM.2.2 12 (by decide)) ?_)))
        refine Exists.intro _ (Exists.intro _ (And.intro e12 (And.intro (by rw [x6]; exact vp_in_nI (by omega) (by decide)) ?_)))
        rw [x6, nI_clamp (show 6 * b + k < 2 ^ 31 by omega), q12 k (by omega)]
        by_cases c2 : dnR D k = dnR E k
        · refine And.intro (fun _ => ?_) (fun cz => absurd (cmp_eq.mpr c2) cz)
          refine go_loc (lv' := [(3, .int (nI k + 1)), (0, .ref o), (1, .int (nI a)), (2, .int (nI b))]) ⟨rfl, rfl, rfl, rfl, trivial⟩ ?_
          rw [← nI_succ]
          exact ih (k + 1) (by omega) (fun j hj => by
            by_cases e : j = k
            · rw [e]; exact ⟨c1, c2⟩
            · exact hall j (by omega))
        · refine And.intro (fun cz => absurd cz (fun z => c2 (cmp_eq.mp z))) (fun _ => ?_)
          exact And.intro rfl ((no (fun z => c2 (z.2.2.2.2.1 k hkL).2)))
      · refine And.intro (fun _ => ?_) (fun cz => absurd cz (fun z => c1 ((nI_eq (by omega) (by omega)).mp z)))
        exact And.intro rfl ((no (fun z => c1 (z.2.2.2.2.1 k hkL).1)))
  have loop1 : dI D = dI E → dR D = dR E → dL D = dL E → ∀ (m k : Nat), k + m = dI D → (∀ j, j < k → dtr D j = dtr E j ∧ dnI D j = dnI E j) → Go l G 12 s_X12_isSame 0 0 Post 49 [(3, .int (nI k)), (0, .ref o), (1, .int (nI a)), (2, .int (nI b))] [] h nx 0 0 := by
    intro eI eR eL m
    induction m with
    | zero =>
      intro k hk hall
      have e : k = dI D := by omega
      subst e
      refine Go.of hX.2 ck_X12_isSame [116] 30 ?_
      refine Exists.intro _ (And.intro hM.1 (Exists.intro _ (And.intro (hM.2.2 7 (by decide)) ?_)))
      refine Exists.intro _ (Exists.intro _ (And.intro d7 (And.intro (vp_in_nI ha (by decide)) ?_)))
      rw [nI_clamp (show a < 2 ^ 31 by omega), pI]
      refine And.intro (fun _ => ?_) (fun cz => absurd (nI_le (Nat.le_refl _) (by omega)) cz)
      exact go_loc (lv' := [(3, .int (nI 0)), (0, .ref o), (1, .int (nI a)), (2, .int (nI b))]) ⟨rfl, rfl, rfl, rfl, trivial⟩ (loop2 eI eR eL hall (dR D) 0 (Nat.zero_add _) (fun j hj => absurd hj (Nat.not_lt_zero j)))
    | succ m ih =>
      intro k hk hall
      have hkL : k < dI D := by omega
      refine Go.of hX.2 ck_X12_isSame [49] 80 ?_
      refine Exists.intro _ (And.intro hM.1 (Exists.intro _ (And.intro (hM.2.2 7 (by decide)) ?_)))
      refine Exists.intro _ (Exists.intro _ (And.intro d7 (And.intro (vp_in_nI ha (by decide)) ?_)))
      rw [nI_clamp (show a < 2 ^ 31 by omega), pI]
      refine And.intro (fun cz => absurd cz (nI_ge hkL (by omega))) (fun _ => ?_)
      refine Exists.intro _ (And.intro hM.1 (Exists.intro _ (And.intro (hM.2.2 8 (by decide)) ?_)))
      refine Exists.intro 3 (Exists.intro _ (Exists.intro _ (And.intro d8 (And.intro (Or.inr rfl) (And.intro (by rw [x5]; exact vp_in_nI (by omega) (by decide)) ?_)))))
      rw [x5, nI_clamp (show 5 * a + k < 2 ^ 31 by omega), pt k (by omega)]
      refine Exists.intro _ (And.intro hM.1 (Exists.intro _ (And.intro (hM.2.2 8 (by decide)) ?_)))
      refine Exists.intro 3 (Exists.intro _ (Exists.intro _ (And.intro e8 (And.intro (Or.inr rfl) (And.intro (by rw [x5]; exact vp_in_nI (by omega) (by decide)) ?_)))))
      rw [x5, nI_clamp (show 5 * b + k < 2 ^ 31 by omega), qt k (by omega)]
      by_cases c1 : dtr D k = dtr E k
      · refine And.intro (fun cz => absurd (tN_inj.mpr c1) cz) (fun _ => ?_)
        refine Exists.intro _ (And.intro hM.1 (Exists.intro _ (And.intro (hM.2.2 9 (by decide)) ?_)))
        refine Exists.intro _ (Exists.intro _ (And.intro d9 (And.intro (by rw [x5]; exact vp_in_nI (by omega) (by decide)) ?_)))
        rw [x5, nI_clamp (show 5 * a + k < 2 ^ 31 by omega), p9 k hkL]
        refine Exists.intro _ (And.intro hM.1 (Exists.intro _ (And.intro (hM.2.2 9 (by decide)) ?_)))
        refine Exists.intro _ (Exists.intro _ (And.intro e9 (And.intro (by rw [x5]; exact vp_in_nI (by omega) (by decide)) ?_)))
        rw [x5, nI_clamp (show 5 * b + k < 2 ^ 31 by omega), q9 k (by omega)]
        by_cases c2 : dnI D k = dnI E k
        · refine And.intro (fun _ => ?_) (fun cz => absurd (cmp_eq.mpr c2) cz)
          refine go_loc (lv' := [(3, .int (nI k + 1)), (0, .ref o), (1, .int (nI a)), (2, .int (nI b))]) ⟨rfl, rfl, rfl, rfl, trivial⟩ ?_
          rw [← nI_succ]
          exact ih (k + 1) (by omega) (fun j hj => by
            by_cases e : j = k
            · rw [e]; exact ⟨c1, c2⟩
            · exact hall j (by omega))
        · refine And.intro (fun cz => absurd cz (fun z => c2 (cmp_eq.mp z))) (fun _ => ?_)
          exact And.intro rfl ((no (fun z => c2 (z.2.2.2.1 k hkL).2)))
      · refine And.intro (fun _ => ?_) (fun cz => absurd cz (fun z => c1 (tN_inj.mp z)))
        exact And.intro rfl ((no (fun z => c1 (z.2.2.2.1 k hkL).1)))
  refine en_X12_isSame hX [49] 80 rfl ?_
  refine Exists.intro _ (And.intro hM.1 (Exists.intro _ (And.intro (hM.2.2 7 (by decide)) ?_)))
  refine Exists.intro _ (Exists.intro _ (And.intro d7 (And.intro (vp_in_nI ha (by decide)) ?_)))
  rw [nI_clamp (show a < 2 ^ 31 by omega), pI]
  refine Exists.intro _ (And.intro hM.1 (Exists.intro _ (And.intro (hM.2.2 7 (by decide)) ?_)))
  refine Exists.intro _ (Exists.intro _ (And.intro e7 (And.intro (vp_in_nI hb (by decide)) ?_)))
  rw [nI_clamp (show b < 2 ^ 31 by omega), qI]
  by_cases c1 : dI D = dI E
  · refine And.intro (fun cz => absurd (show nI (dI D) = nI (dI E) from by rw [c1]) cz) (fun _ => ?_)
    refine Exists.intro _ (And.intro hM.1 (Exists.intro _ (And.intro (hM.2.2 10 (by decide)) ?_)))
    refine Exists.intro _ (Exists.intro _ (And.intro d10 (And.intro (vp_in_nI ha (by decide)) ?_)))
    rw [nI_clamp (show a < 2 ^ 31 by omega), pR]
    refine Exists.intro _ (And.intro hM.1 (Exists.intro _ (And.intro (hM.2.2 10 (by decide)) ?_)))
    refine Exists.intro _ (Exists.intro _ (And.intro e10 (And.intro (vp_in_nI hb (by decide)) ?_)))
    rw [nI_clamp (show b < 2 ^ 31 by omega), qR]
    by_cases c2 : dR D = dR E
    · refine And.intro (fun cz => absurd (show nI (dR D) = nI (dR E) from by rw [c2]) cz) (fun _ => ?_)
      refine Exists.intro _ (And.intro hM.1 (Exists.intro _ (And.intro (hM.2.2 13 (by decide)) ?_)))
      refine Exists.intro _ (Exists.intro _ (And.intro d13 (And.intro (vp_in_nI ha (by decide)) ?_)))
      rw [nI_clamp (show a < 2 ^ 31 by omega), pL]
      refine Exists.intro _ (And.intro hM.1 (Exists.intro _ (And.intro (hM.2.2 13 (by decide)) ?_)))
      refine Exists.intro _ (Exists.intro _ (And.intro e13 (And.intro (vp_in_nI hb (by decide)) ?_)))
      rw [nI_clamp (show b < 2 ^ 31 by omega), qL]
      by_cases c3 : dL D = dL E
      · refine And.intro (fun _ => ?_) (fun cz => absurd (show nI (dL D) = nI (dL E) from by rw [c3]) cz)
        exact go_loc (lv' := [(3, .int (nI 0)), (0, .ref o), (1, .int (nI a)), (2, .int (nI b))]) ⟨rfl, rfl, rfl, rfl, trivial⟩ (loop1 c1 c2 c3 (dI D) 0 (Nat.zero_add _) (fun j hj => absurd hj (Nat.not_lt_zero j)))
      · refine And.intro (fun cz => absurd cz (fun z => c3 ((nI_eq (by omega) (by omega)).mp z))) (fun _ => ?_)
        exact And.intro rfl ((no (fun z => c3 z.2.2.1)))
    · refine And.intro (fun _ => ?_) (fun cz => absurd cz (fun z => c2 ((nI_eq (by omega) (by omega)).mp z)))
      exact And.intro rfl ((no (fun z => c2 z.2.1)))
  · refine And.intro (fun _ => ?_) (fun cz => absurd cz (fun z => c1 ((nI_eq (by omega) (by omega)).mp z)))
    exact And.intro rfl ((no (fun z => c1 z.1)))
set_option maxHeartbeats 8000000 in
theorem m_isAlike {l : Launch} {G : GG} {h : AH} {nx : Nat} {Post : Option Value → AH → Nat → Prop} {o a b c : Nat} {D E : DD} {fs : List Value} (hX : XC G ∧ TX l G) (hM : MA h o fs) (hD : MPg h o a D) (hE : MPg h o b E) (hc : c < 11) (h1 : cirB (dR D) (dL D) c = true) (h2 : cirB (dR E) (dL E) c = true) (hP : Post (some (.int (nI (decide (dsg D c = dsg E c)).toNat))) h nx) : Runs l G i_X12_isAlike 0 0 [.ref o, .int (nI (17 * a + c)), .int (nI (17 * b + c))] h nx Post := by
  have ha := hD.2.2.2.2.2.2.2
  have hb := hE.2.2.2.2.2.2.2
  obtain ⟨_, _, _, _, _, _, ⟨_, _, _, gf, gt, gs, d25, d26, d28, pc⟩, _⟩ := id hD
  obtain ⟨_, _, _, _, _, _, ⟨_, _, _, kf, kt, ks, e25, e26, e28, qc⟩, _⟩ := id hE
  obtain ⟨x, x1, x2, x3, x4⟩ := pc c hc h1
  obtain ⟨y, y1, y2, y3, y4⟩ := qc c hc h2
  generalize hn : (dsg D c).length = n at x2 x3 x4
  generalize hm : (dsg E c).length = m at y2 y3 y4
  have sx : nI (x + n) - nI x = nI n := by rw [nI_sub (by omega), Nat.add_sub_cancel_left]
  have sy : nI (y + m) - nI y = nI m := by rw [nI_sub (by omega), Nat.add_sub_cancel_left]
  have ia : 17 * a + c < 85 := by omega
  have ib : 17 * b + c < 85 := by omega
  have loop : n = m → ∀ (j i : Nat), i + j = n → (∀ k, k < i → (dsg D c).getD k 0 = (dsg E c).getD k 0) → Go l G 12 s_X12_isAlike 0 0 Post 33 [(3, .int (nI i)), (0, .ref o), (1, .int (nI (17 * a + c))), (2, .int (nI (17 * b + c)))] [] h nx 0 0 := by
    intro hnm j
    induction j with
    | zero =>
      intro i hi hall
      have e : i = n := by omega
      subst e
      refine Go.of hX.2 ck_X12_isAlike [33] 40 ?_
      refine Exists.intro _ (And.intro hM.1 (Exists.intro _ (And.intro (hM.2.2 26 (by decide)) ?_)))
      refine Exists.intro _ (Exists.intro _ (And.intro d26 (And.intro (vp_in_nI ia (by decide)) ?_)))
      rw [nI_clamp (show 17 * a + c < 2 ^ 31 by omega), x2]
      refine Exists.intro _ (And.intro hM.1 (Exists.intro _ (And.intro (hM.2.2 25 (by decide)) ?_)))
      refine Exists.intro _ (Exists.intro _ (And.intro d25 (And.intro (vp_in_nI ia (by decide)) ?_)))
      rw [nI_clamp (show 17 * a + c < 2 ^ 31 by omega), x1]
      refine And.intro (fun _ => ?_) (fun cz => absurd (show nI (x + i) - nI x ≤ nI i from by rw [sx]; exact Int32.le_refl _) cz)
      rw [decide_eq_true (getD_ext (by omega) (fun k hk => hall k (by omega)))] at hP
      exact And.intro rfl (hP)
    | succ j ih =>
      intro i hi hall
      have hin : i < n := by omega
      have ex : nI x + nI i = nI (x + i) := nI_add _ _
      have ey : nI y + nI i = nI (y + i) := nI_add _ _
      refine Go.of hX.2 ck_X12_isAlike [33] 80 ?_
      refine Exists.intro _ (And.intro hM.1 (Exists.intro _ (And.intro (hM.2.2 26 (by decide)) ?_)))
      refine Exists.intro _ (Exists.intro _ (And.intro d26 (And.intro (vp_in_nI ia (by decide)) ?_)))
      rw [nI_clamp (show 17 * a + c < 2 ^ 31 by omega), x2]
      refine Exists.intro _ (And.intro hM.1 (Exists.intro _ (And.intro (hM.2.2 25 (by decide)) ?_)))
      refine Exists.intro _ (Exists.intro _ (And.intro d25 (And.intro (vp_in_nI ia (by decide)) ?_)))
      rw [nI_clamp (show 17 * a + c < 2 ^ 31 by omega), x1]
      refine And.intro (fun cz => absurd cz (show ¬ nI (x + n) - nI x ≤ nI i from by rw [sx]; exact nI_ge hin (by omega))) (fun _ => ?_)
      refine Exists.intro _ (And.intro hM.1 (Exists.intro _ (And.intro (hM.2.2 28 (by decide)) ?_)))
      refine Exists.intro _ (And.intro hM.1 (Exists.intro _ (And.intro (hM.2.2 25 (by decide)) ?_)))
      refine Exists.intro _ (Exists.intro _ (And.intro d25 (And.intro (vp_in_nI ia (by decide)) ?_)))
      rw [nI_clamp (show 17 * a + c < 2 ^ 31 by omega), x1]
      refine Exists.intro _ (Exists.intro _ (And.intro d28 (And.intro (by rw [ex]; exact vp_in_nI (by omega) (by decide)) ?_)))
      rw [ex, nI_clamp (show x + i < 2 ^ 31 by omega), x4 i (by omega)]
      refine Exists.intro _ (And.intro hM.1 (Exists.intro _ (And.intro (hM.2.2 28 (by decide)) ?_)))
      refine Exists.intro _ (And.intro hM.1 (Exists.intro _ (And.intro (hM.2.2 25 (by decide)) ?_)))
      refine Exists.intro _ (Exists.intro _ (And.intro e25 (And.intro (vp_in_nI ib (by decide)) ?_)))
      rw [nI_clamp (show 17 * b + c < 2 ^ 31 by omega), y1]
      refine Exists.intro _ (Exists.intro _ (And.intro e28 (And.intro (by rw [ey]; exact vp_in_nI (by omega) (by decide)) ?_)))
      rw [ey, nI_clamp (show y + i < 2 ^ 31 by omega), y4 i (by omega)]
      by_cases ce : (dsg D c).getD i 0 = (dsg E c).getD i 0
      · refine And.intro (fun _ => ?_) (fun cz => absurd (cmp_eq.mpr ce) cz)
        refine go_loc (lv' := [(3, .int (nI i + 1)), (0, .ref o), (1, .int (nI (17 * a + c))), (2, .int (nI (17 * b + c)))]) ⟨rfl, rfl, rfl, rfl, trivial⟩ ?_
        rw [← nI_succ]
        exact ih (i + 1) (by omega) (fun k hk => by
          by_cases e : k = i
          · rw [e]; exact ce
          · exact hall k (by omega))
      · refine And.intro (fun cz => absurd cz (fun z => ce (cmp_eq.mp z))) (fun _ => ?_)
        rw [decide_eq_false (fun z => ce (by rw [z]))] at hP
        exact And.intro rfl (hP)
  refine en_X12_isAlike hX [33] 60 rfl ?_
  refine Exists.intro _ (And.intro hM.1 (Exists.intro _ (And.intro (hM.2.2 26 (by decide)) ?_)))
  refine Exists.intro _ (Exists.intro _ (And.intro d26 (And.intro (vp_in_nI ia (by decide)) ?_)))
  rw [nI_clamp (show 17 * a + c < 2 ^ 31 by omega), x2]
  refine Exists.intro _ (And.intro hM.1 (Exists.intro _ (And.intro (hM.2.2 25 (by decide)) ?_)))
  refine Exists.intro _ (Exists.intro _ (And.intro d25 (And.intro (vp_in_nI ia (by decide)) ?_)))
  rw [nI_clamp (show 17 * a + c < 2 ^ 31 by omega), x1]
  refine Exists.intro _ (And.intro hM.1 (Exists.intro _ (And.intro (hM.2.2 26 (by decide)) ?_)))
  refine Exists.intro _ (Exists.intro _ (And.intro e26 (And.intro (vp_in_nI ib (by decide)) ?_)))
  rw [nI_clamp (show 17 * b + c < 2 ^ 31 by omega), y2]
  refine Exists.intro _ (And.intro hM.1 (Exists.intro _ (And.intro (hM.2.2 25 (by decide)) ?_)))
  refine Exists.intro _ (Exists.intro _ (And.intro e25 (And.intro (vp_in_nI ib (by decide)) ?_)))
  rw [nI_clamp (show 17 * b + c < 2 ^ 31 by omega), y1]
  by_cases cn : n = m
  · refine And.intro (fun _ => ?_) (fun cz => absurd (show nI (x + n) - nI x = nI (y + m) - nI y from by rw [sx, sy, cn]) cz)
    exact go_loc (lv' := [(3, .int (nI 0)), (0, .ref o), (1, .int (nI (17 * a + c))), (2, .int (nI (17 * b + c)))]) ⟨rfl, rfl, rfl, rfl, trivial⟩ (loop cn n 0 (Nat.zero_add _) (fun k hk => absurd hk (Nat.not_lt_zero k)))
  · refine And.intro (fun cz => absurd cz (fun z => cn ((nI_eq (by omega) (by omega)).mp (by rw [← sx, ← sy]; exact z)))) (fun _ => ?_)
    rw [decide_eq_false (fun z => cn (by rw [← hn, ← hm, z]))] at hP
    exact And.intro rfl (hP)
