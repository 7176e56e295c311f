/-! what must not show, in the model -/
/-- the nevers of page d: the lamp of each, and when it holds -/
def DN (h : AH) (o d nV : Nat) (lp : Nat → Nat) (tr : Nat → Bool) (NV : Nat → Nat → Nat → Bool) : Prop :=
  ∃ gv gl trk gf gt gk : Nat → Int32, h (o + 1 + 16) = some (.inl (0, 5, .inl gv)) ∧ h (o + 1 + 17) = some (.inl (0, 30, .inl gl)) ∧ h (o + 1 + 8) = some (.inl (3, 25, .inl trk)) ∧ h (o + 1 + 23) = some (.inl (0, 85, .inl gf)) ∧ h (o + 1 + 24) = some (.inl (0, 85, .inl gt)) ∧ h (o + 1 + 27) = some (.inl (0, 2100, .inl gk)) ∧
  d < 5 ∧ gv d = nI nV ∧ nV ≤ 6 ∧ (∀ i, i < 5 → trk (5 * d + i) = nI (tr i).toNat) ∧
  ∀ k, k < nV → gl (6 * d + k) = nI (lp k) ∧ lp k < 5 ∧ ∃ (a : Nat) (codes : List Nat), gf (17 * d + 11 + k) = nI a ∧ gt (17 * d + 11 + k) = nI (a + codes.length) ∧ (∀ i, i < codes.length → gk (a + i) = nI (codes.getD i 0)) ∧ (∀ x ∈ codes, x < 1000) ∧ codes.length ≤ 420 ∧ a + codes.length ≤ 2100 ∧ (∀ x, 60 ≤ x → x ∈ codes → ((x - 60) / 2 < 5 ∨ (10 ≤ (x - 60) / 2 ∧ (x - 60) / 2 < 16))) ∧
    ∀ on up, pfS (fun x => decide (60 ≤ x)) (fun x => thv tr on up ((x - 60) / 2) ^^ decide (x % 2 = 1)) codes [] = some [NV k on up]
/-- two heaps that differ in the pile alone -/
def PL (o : Nat) (h h1 : AH) : Prop := (∀ a, a ≠ o + 1 + 36 → h1 a = h a) ∧ ∃ g : Nat → Int32, h1 (o + 1 + 36) = some (.inl (3, 420, .inl g))
theorem PL.tr {o : Nat} {h h1 h2 : AH} (a : PL o h h1) (b : PL o h1 h2) : PL o h h2 := ⟨fun x hx => (b.1 x hx).trans (a.1 x hx), b.2⟩
theorem DN.ag {h h' : AH} {o d nV : Nat} {lp : Nat → Nat} {tr : Nat → Bool} {NV : Nat → Nat → Nat → Bool} (hD : DN h o d nV lp tr NV) (hs : ∀ j, j < 30 → h' (o + 1 + j) = h (o + 1 + j)) : DN h' o d nV lp tr NV := by
  obtain ⟨gv, gl, trk, gf, gt, gk, a1, a2, a3, a4, a5, a6, r⟩ := hD
  exact ⟨gv, gl, trk, gf, gt, gk, (hs 16 (by decide)).trans a1, (hs 17 (by decide)).trans a2, (hs 8 (by decide)).trans a3, (hs 23 (by decide)).trans a4, (hs 24 (by decide)).trans a5, (hs 27 (by decide)).trans a6, r⟩
/-- the lamps (a set) of those nevers among the first n that hold -/
def nvF (lp : Nat → Nat) (P : Nat → Bool) : Nat → Nat
  | 0 => 0
  | n + 1 => nvF lp P n ||| (if P n = true then 2 ^ lp n else 0)
theorem nvF_lt {lp : Nat → Nat} {P : Nat → Bool} : ∀ {n : Nat}, (∀ k, k < n → lp k < 5) → nvF lp P n < 2 ^ 5
  | 0, _ => by show 0 < 2 ^ 5; decide
  | n + 1, h => by
    refine Nat.or_lt_two_pow (nvF_lt (fun k hk => h k (by omega))) ?_
    split
    · exact Nat.pow_lt_pow_right (by decide) (h n (Nat.lt_succ_self n))
    · decide
set_option maxHeartbeats 4000000 in
theorem c_greens {l : Launch} {G : GG} {h : AH} {nx : Nat} {Post : Option Value → AH → Nat → Prop} {o d nL : Nat} {gr : Nat → Bool} {gL gg : Nat → Int32} {fs : List Value} (hX : XC G ∧ TX l G) (hM : MA h o fs) (hd : d < 5) (h13 : h (o + 1 + 13) = some (.inl (0, 5, .inl gL))) (h14 : h (o + 1 + 14) = some (.inl (3, 25, .inl gg))) (eL : gL d = nI nL) (hL5 : nL ≤ 5) (eg : ∀ k, k < nL → gg (5 * d + k) = nI (gr k).toNat) (hP : Post (some (.int (nI (bsum gr nL)))) h nx) : Runs l G i_X12_greens 0 0 [.ref o, .int (nI d)] h nx Post := by
  have loop : ∀ (n k : Nat), k + n = nL → Go l G 12 s_X12_greens 0 0 Post 4 [(3, .int (nI k)), (2, .int (nI (bsum gr k))), (0, .ref o), (1, .int (nI d))] [] h nx 0 0 := by
    intro n
    induction n with
    | zero =>
      intro k hk
      have ek : nL = k := by omega
      subst ek
      refine Go.of hX.2 ck_X12_greens [4] 30 ?_
      refine Exists.intro _ (And.intro hM.1 (Exists.intro _ (And.intro (hM.2.2 13 (by decide)) ?_)))
      refine Exists.intro _ (Exists.intro _ (And.intro h13 (And.intro (vp_in_nI hd (by decide)) ?_)))
      rw [nI_clamp (by omega), eL]
      refine And.intro (fun _ => ?_) (fun cz => absurd (nI_le (Nat.le_refl _) (by omega)) cz)
      exact And.intro rfl hP
    | succ n ih =>
      intro k hk
      have hkL : k < nL := by omega
      have nxt := ih (k + 1) (by omega)
      have ei : (5 : Int32) * nI d + nI k = nI (5 * d + k) := by rw [show (5 : Int32) = nI 5 from rfl, nI_mul, nI_add]
      refine Go.of hX.2 ck_X12_greens [4] 40 ?_
      refine Exists.intro _ (And.intro hM.1 (Exists.intro _ (And.intro (hM.2.2 13 (by decide)) ?_)))
      refine Exists.intro _ (Exists.intro _ (And.intro h13 (And.intro (vp_in_nI hd (by decide)) ?_)))
      rw [nI_clamp (by omega), eL]
      refine And.intro (fun cz => absurd cz (nI_ge hkL (by omega))) (fun _ => ?_)
      refine Exists.intro _ (And.intro hM.1 (Exists.intro _ (And.intro (hM.2.2 14 (by decide)) ?_)))
      refine Exists.intro 3 (Exists.intro _ (Exists.intro _ (And.intro h14 (And.intro (Or.inr rfl) (And.intro (by rw [ei]; exact vp_in_nI (by omega) (by decide)) ?_)))))
      rw [ei, nI_clamp (by omega), eg k hkL]
      cases hb : gr k
      · rw [show bsum gr (k + 1) = bsum gr k ||| 0 from by show bsum gr k ||| _ = _; rw [hb]; rfl, Nat.or_zero, nI_succ] at nxt
        refine And.intro (fun _ => ?_) (fun cz => absurd (tN0 rfl) cz)
        exact go_loc (lv' := [(3, .int (nI k + 1)), (2, .int (nI (bsum gr k))), (0, .ref o), (1, .int (nI d))]) ⟨rfl, rfl, rfl, rfl, trivial⟩ nxt
      · rw [show bsum gr (k + 1) = bsum gr k ||| 2 ^ k from by show bsum gr k ||| _ = _; rw [hb]; rfl, nI_succ, ← nx_or, ← nx_pow (by omega)] at nxt
        refine And.intro (fun cz => absurd cz (tN1 rfl)) (fun _ => ?_)
        exact go_loc (lv' := [(3, .int (nI k + 1)), (2, .int (nI (bsum gr k) ||| ((1 : Int32) <<< (nI k &&& 31)))), (0, .ref o), (1, .int (nI d))]) ⟨rfl, rfl, rfl, rfl, trivial⟩ nxt
  refine en_X12_greens hX [4] 20 rfl ?_
  exact go_loc (lv' := [(3, .int (nI 0)), (2, .int (nI 0)), (0, .ref o), (1, .int (nI d))]) ⟨rfl, rfl, rfl, rfl, trivial⟩ (loop nL 0 (Nat.zero_add _))
set_option maxHeartbeats 4000000 in
theorem c_neverNow {l : Launch} {G : GG} {h : AH} {nx : Nat} {Post : Option Value → AH → Nat → Prop} {o d nV on up : Nat} {lp : Nat → Nat} {tr : Nat → Bool} {NV : Nat → Nat → Nat → Bool} {gp : Nat → Int32} {fs : List Value} (hX : XC G ∧ TX l G) (hM : MA h o fs) (hN : DN h o d nV lp tr NV) (h36 : h (o + 1 + 36) = some (.inl (3, 420, .inl gp))) (hon : on < 2 ^ 31) (hup : up < 2 ^ 31) (hP : ∀ h1 : AH, PL o h h1 → Post (some (.int (nI (nvF lp (fun k => NV k on up) nV)))) h1 nx) : Runs l G i_X12_neverNow 0 0 [.ref o, .int (nI d), .int (nI on), .int (nI up)] h nx Post := by
  obtain ⟨gv, gl, trk, gf, gt, gk, a16, a17, a8, a23, a24, a27, hd, eV, hV6, et, en⟩ := hN
  have loop : ∀ (n k : Nat) (h1 : AH), k + n = nV → PL o h h1 → Go l G 12 s_X12_neverNow 0 0 Post 6 [(5, .int (nI k)), (4, .int (nI (nvF lp (fun k => NV k on up) k))), (0, .ref o), (1, .int (nI d)), (2, .int (nI on)), (3, .int (nI up))] [] h1 nx 0 0 := by
    intro n
    induction n with
    | zero =>
      intro k h1 hk hp
      have ek : nV = k := by omega
      subst ek
      have hM1 : MA h1 o fs := hM.keep (hp.1 _ (by omega))
      refine Go.of hX.2 ck_X12_neverNow [6] 30 ?_
      refine Exists.intro _ (And.intro hM1.1 (Exists.intro _ (And.intro (hM.2.2 16 (by decide)) ?_)))
      refine Exists.intro _ (Exists.intro _ (And.intro ((hp.1 _ (by omega)).trans a16) (And.intro (vp_in_nI hd (by decide)) ?_)))
      rw [nI_clamp (by omega), eV]
      refine And.intro (fun _ => ?_) (fun cz => absurd (nI_le (Nat.le_refl _) (by omega)) cz)
      exact And.intro rfl (hP h1 hp)
    | succ n ih =>
      intro k h1 hk hp
      have hkV : k < nV := by omega
      have hM1 : MA h1 o fs := hM.keep (hp.1 _ (by omega))
      obtain ⟨e1, e2, a, codes, b1, b2, b3, b4, b5, b6, b7, b8⟩ := en k hkV
      obtain ⟨g1, hg1⟩ := hp.2
      have ei : (17 : Int32) * nI d + 11 + nI k = nI (17 * d + 11 + k) := by rw [show (17 : Int32) = nI 17 from rfl, show (11 : Int32) = nI 11 from rfl, nI_mul, nI_add, nI_add]
      have el : (6 : Int32) * nI d + nI k = nI (6 * d + k) := by rw [show (6 : Int32) = nI 6 from rfl, nI_mul, nI_add]
      refine Go.of hX.2 ck_X12_neverNow [6] 60 ?_
      refine Exists.intro _ (And.intro hM1.1 (Exists.intro _ (And.intro (hM.2.2 16 (by decide)) ?_)))
      refine Exists.intro _ (Exists.intro _ (And.intro ((hp.1 _ (by omega)).trans a16) (And.intro (vp_in_nI hd (by decide)) ?_)))
      rw [nI_clamp (by omega), eV]
      refine And.intro (fun cz => absurd cz (nI_ge hkV (by omega))) (fun _ => ?_)
      refine Exists.intro _ (And.intro hM1.1 (Exists.intro 0 (Exists.intro 0 (And.intro (Nat.le_refl _) (And.intro (Nat.le_refl _) ?_)))))
      rw [ei]
      refine c_holdsM (q22 := o + 1 + 8) (q37 := o + 1 + 23) (q38 := o + 1 + 24) (q42 := o + 1 + 27) (q57 := o + 1 + 36) (tr := tr) (len := 0) hX hM1.1 (hM.2.2 23 (by decide)) (hM.2.2 24 (by decide)) (hM.2.2 27 (by decide)) (hM.2.2 36 (by decide)) ((hp.1 _ (by omega)).trans a23) ((hp.1 _ (by omega)).trans a24) ((hp.1 _ (by omega)).trans a27) hg1 (by omega) b1 b2 b3 b4 b5 b6 (b8 on up) (hM.2.2 8 (by decide)) ((hp.1 _ (by omega)).trans a8) (by omega) hon hup hd et b7 (fun g2 => ?_)
      have hp2 : PL o h (uph h1 (o + 1 + 36) (.inl (3, 420, .inl g2))) := ⟨fun x hx => (uph_ne hx).trans (hp.1 x hx), g2, uph_eq⟩
      have hM2 : MA (uph h1 (o + 1 + 36) (.inl (3, 420, .inl g2))) o fs := hM.keep (hp2.1 _ (by omega))
      have nxt := ih (k + 1) _ (by omega) hp2
      cases hb : NV k on up
      · rw [show nvF lp (fun k => NV k on up) (k + 1) = nvF lp (fun k => NV k on up) k ||| 0 from by show nvF lp _ k ||| (if NV k on up = true then 2 ^ lp k else 0) = _; rw [hb]; rfl, Nat.or_zero, nI_succ] at nxt
        refine And.intro (fun _ => ?_) (fun cz => absurd (tN0 rfl) cz)
        exact go_loc (lv' := [(5, .int (nI k + 1)), (4, .int (nI (nvF lp (fun k => NV k on up) k))), (0, .ref o), (1, .int (nI d)), (2, .int (nI on)), (3, .int (nI up))]) ⟨rfl, rfl, rfl, rfl, rfl, rfl, trivial⟩ nxt
      · rw [show nvF lp (fun k => NV k on up) (k + 1) = nvF lp (fun k => NV k on up) k ||| 2 ^ lp k from by show nvF lp _ k ||| (if NV k on up = true then 2 ^ lp k else 0) = _; rw [hb]; rfl, nI_succ, ← nx_or, ← nx_pow (by omega)] at nxt
        refine And.intro (fun cz => absurd cz (tN1 rfl)) (fun _ => ?_)
        refine Exists.intro _ (And.intro hM2.1 (Exists.intro _ (And.intro (hM.2.2 17 (by decide)) ?_)))
        refine Exists.intro _ (Exists.intro _ (And.intro ((hp2.1 _ (by omega)).trans a17) (And.intro (by rw [el]; exact vp_in_nI (by omega) (by decide)) ?_)))
        rw [el, nI_clamp (by omega), e1]
        exact go_loc (lv' := [(5, .int (nI k + 1)), (4, .int (nI (nvF lp (fun k => NV k on up) k) ||| ((1 : Int32) <<< (nI (lp k) &&& 31)))), (0, .ref o), (1, .int (nI d)), (2, .int (nI on)), (3, .int (nI up))]) ⟨rfl, rfl, rfl, rfl, rfl, rfl, trivial⟩ nxt
  refine en_X12_neverNow hX [6] 20 rfl ?_
  exact go_loc (lv' := [(5, .int (nI 0)), (4, .int (nI 0)), (0, .ref o), (1, .int (nI d)), (2, .int (nI on)), (3, .int (nI up))]) ⟨rfl, rfl, rfl, rfl, rfl, rfl, trivial⟩ (loop nV 0 h (Nat.zero_add _) ⟨fun _ _ => rfl, gp, h36⟩)
set_option maxHeartbeats 4000000 in
theorem c_isWrongM {l : Launch} {G : GG} {h : AH} {nx : Nat} {Post : Option Value → AH → Nat → Prop} {o hh d e nL nV on up sv : Nat} {lp : Nat → Nat} {gr tr : Nat → Bool} {NV : Nat → Nat → Nat → Bool} {gp gL gg gsh : Nat → Int32} {fs : List Value} (hX : XC G ∧ TX l G) (hM : MA h o fs) (hN : DN h o e nV lp tr NV) (h36 : h (o + 1 + 36) = some (.inl (3, 420, .inl gp))) (h41 : h (o + 1 + 41) = some (.inl (0, 4096, .inl gsh))) (hd : d < 5) (h13 : h (o + 1 + 13) = some (.inl (0, 5, .inl gL))) (h14 : h (o + 1 + 14) = some (.inl (3, 25, .inl gg))) (eL : gL d = nI nL) (hL5 : nL ≤ 5) (eg : ∀ k, k < nL → gg (5 * d + k) = nI (gr k).toNat) (hhh : hh < 2) (hon : on < 32) (hup : up < 64) (hsv : gsh (2048 * hh + 64 * on + up) = nI sv) (hsv2 : sv < 2048) (hP : ∀ h1 : AH, PL o h h1 → Post (some (.int (nI (decide ((((sv >>> 6) &&& bsum gr nL) &&& nvF lp (fun k => NV k on up) nV) ≠ 0)).toNat))) h1 nx) : Runs l G i_X12_isWrong 0 0 [.ref o, .int (nI hh), .int (nI d), .int (nI e), .int (nI (64 * on + up))] h nx Post := by
  have ed : nI (64 * on + up) / 64 = nI on := by rw [show (64 : Int32) = nI 64 from rfl, pk_div (by omega) (by decide) (by decide)]; congr 1; omega
  have er : nI (64 * on + up) - nI (64 * on + up) / 64 * 64 = nI up := by rw [show (64 : Int32) = nI 64 from rfl, pk_rem (by omega) (by decide) (by decide)]; congr 1; omega
  refine en_X12_isWrong hX [] 80 rfl ?_
  refine And.intro (by decide) ?_
  refine And.intro (by decide) ?_
  refine Exists.intro _ (And.intro hM.1 (Exists.intro 0 (Exists.intro 0 (And.intro (Nat.le_refl _) (And.intro (Nat.le_refl _) ?_)))))
  rw [er, ed]
  refine c_lampsAtM hX hM.1 (hM.2.2 41 (by decide)) h41 (by omega) hsv (by omega) ?_
  refine Exists.intro _ (And.intro hM.1 (Exists.intro 0 (Exists.intro 0 (And.intro (Nat.le_refl _) (And.intro (Nat.le_refl _) (c_greens hX hM hd h13 h14 eL hL5 eg ?_))))))
  refine And.intro (by decide) ?_
  refine And.intro (by decide) ?_
  refine Exists.intro _ (And.intro hM.1 (Exists.intro 0 (Exists.intro 0 (And.intro (Nat.le_refl _) (And.intro (Nat.le_refl _) ?_)))))
  rw [er, ed]
  refine c_neverNow hX hM hN h36 (by omega) (by omega) (fun h1 hp => ?_)
  have hq := hP h1 hp
  have e3 : (nI (sv >>> 6) &&& nI (bsum gr nL)) &&& nI (nvF lp (fun k => NV k on up) nV) = nI (((sv >>> 6) &&& bsum gr nL) &&& nvF lp (fun k => NV k on up) nV) := by rw [nx_and, nx_and]
  have hlt : ((sv >>> 6) &&& bsum gr nL) &&& nvF lp (fun k => NV k on up) nV < 2 ^ 31 := Nat.lt_of_le_of_lt (Nat.le_trans Nat.and_le_left Nat.and_le_left) (by rw [Nat.shiftRight_eq_div_pow]; omega)
  by_cases h0 : ((sv >>> 6) &&& bsum gr nL) &&& nvF lp (fun k => NV k on up) nV = 0
  · rw [decide_eq_false (fun z => z h0)] at hq
    refine And.intro (fun _ => ?_) (fun cz => absurd (by rw [e3, h0]; rfl) cz)
    exact And.intro rfl hq
  · rw [decide_eq_true h0] at hq
    refine And.intro (fun cz => absurd ((nI_eq hlt (by decide)).mp (show nI _ = nI 0 from e3.symm.trans cz)) h0) (fun _ => ?_)
    exact And.intro rfl hq
