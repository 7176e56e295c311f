/-! rounds by hand, x: a round, and what is told -/
def hDr (D : DD) (s : HWk) (r : Nat) : Bool := (hUp s).testBit r && !(hSh D s).testBit r
def hLt (D : DD) (s : HWk) (r : Nat) : Bool := hDr D s r && decide (dsl D r + hAg s r ≤ hWt s r)
def hCh (D : DD) (s : HWk) : Nat := bsum (fun r => ((hSh D s).testBit r && !(hUp s).testBit r) || hLt D s r) 6
def clK (D : DD) (ch k : Nat) : Bool := decide (10 ≤ dof D k) && (decide (dow D k < 6) && (decide (dof D k - 10 ≠ dow D k) && (ch.testBit (dof D k - 10) && ch.testBit (dow D k))))
def hClash (D : DD) (ch : Nat) : Bool := (List.range (dK D)).any (clK D ch)
def hWn (D : DD) (s : HWk) (r : Nat) : Nat := if (hDr D s r && !hLt D s r) = true then hWt s r + 1 else 0
def hRnd (D : DD) (s : HWk) : HWk := ((hOn s, hUp s ^^^ hCh D s, hClash D (hCh D s)), hSt s, hAg s, hWn D s)
theorem hUp_hi {D : DD} {s : HWk} (hs : WHs D s) {r : Nat} (h : dR D ≤ r) : (hUp s).testBit r = false := tb_big hs.2.1 h
theorem hSh_hi {D : DD} {s : HWk} {r : Nat} (h : dR D ≤ r) (h6 : r < 6) : (hSh D s).testBit r = false := by
  unfold hSh
  rw [bsum_tb]
  have : cirB (dR D) (dL D) r = false := by
    unfold cirB
    rw [if_pos h6, decide_eq_false (by omega)]
  rw [this, Bool.false_and, Bool.and_false]
theorem hDr_r {D : DD} {s : HWk} (hs : WHs D s) {r : Nat} (h : hDr D s r = true) : r < dR D := by
  unfold hDr at h
  rw [Bool.and_eq_true] at h
  rcases Nat.lt_or_ge r (dR D) with z | z
  · exact z
  · rw [hUp_hi hs z] at h; cases h.1
theorem hCh_lt {D : DD} {s : HWk} (hs : WHs D s) : hCh D s < 2 ^ dR D := by
  refine Nat.lt_pow_two_of_testBit _ (fun r hr => ?_)
  unfold hCh
  rw [bsum_tb]
  by_cases h6 : r < 6
  · have : hLt D s r = false := by unfold hLt hDr; rw [hUp_hi hs hr]; rfl
    rw [hSh_hi hr h6, this, Bool.false_and, Bool.or_false, Bool.and_false]
  · rw [decide_eq_false h6, Bool.false_and]
theorem hWn_le {D : DD} {s : HWk} (hw : WD D) (hs : WHs D s) (r : Nat) : hWn D s r ≤ 18 := by
  unfold hWn
  split
  · rename_i h
    rw [Bool.and_eq_true] at h
    have hr := hDr_r hs h.1
    have h2 := h.2
    unfold hLt at h2
    rw [h.1, Bool.true_and, Bool.not_eq_true', decide_eq_false_iff_not] at h2
    have := hw.s r hr
    have := hs.2.2.2.1 r
    omega
  · omega
theorem hRnd_ok {D : DD} {s : HWk} (hw : WD D) (hs : WHs D s) : WHs D (hRnd D s) := ⟨hs.1, Nat.xor_lt_two_pow hs.2.1 (hCh_lt hs), hs.2.2.1, hs.2.2.2.1, hWn_le hw hs⟩
set_option maxHeartbeats 8000000 in
theorem x_isClash {l : Launch} {G : GG} {h : AH} {nx : Nat} {Post : Option Value → AH → Nat → Prop} {w a ch : Nat} {D : DD} {s : HWk} (hX : XC G ∧ TX l G) (hW : XHw h w a s) (hD : XD h a D) (hw : WD D) (hc : ch < 2 ^ 31) (hP : Post (some (.int (nI (hClash D ch).toNat))) h nx) : Runs l G i_X2_isClash 0 0 [.ref (w + 70), .int (nI ch)] h nx Post := by
  obtain ⟨z, ga, gw, e0, e1, e2, p1, p2⟩ := id hW
  obtain ⟨cc, g2, g3, g4, g5, g10, g13, g14, g16, g17, g18, g19, g27, g28, g1, g11, g12, d0, d6, d1, d2, d3, d4, d5, d10, d11, d12, d13, d14, d16, d17, d18, d19, d27, d28, q1, _⟩ := id hD
  have hk := hw.k
  have hi := hw.i
  have hr := hw.r
  have loop : ∀ (m k : Nat), k + m = dK D → (∀ j, j < k → clK D ch j = false) → Go l G 2 s_X2_isClash 0 0 Post 2 [(2, .int (nI k)), (0, .ref (w + 70)), (1, .int (nI ch))] [] h nx 0 0 := by
    intro m
    induction m with
    | zero =>
      intro k hk2 hno
      have e : k = dK D := by omega
      subst e
      refine Go.of hX.2 ck_X2_isClash [2] 20 ?_
      refine Exists.intro _ (And.intro e0 (Exists.intro _ (And.intro rfl ?_)))
      refine Exists.intro _ (And.intro d0 (Exists.intro _ (And.intro rfl ?_)))
      refine And.intro (fun _ => ?_) (fun cz => absurd (nI_le (Nat.le_refl _) (by omega)) cz)
      have ev : hClash D ch = false := by
        unfold hClash
        rw [List.any_eq_false]
        intro j hj
        rw [hno j (List.mem_range.mp hj)]
        decide
      rw [ev] at hP
      exact And.intro rfl (hP)
    | succ m ih =>
      intro k hk2 hno
      have hkK : k < dK D := by omega
      obtain ⟨r1, r2, r3⟩ := q1 k hkK
      obtain ⟨c1, c2, c3⟩ := hw.c k hkK
      have hof : dof D k < 5 ∨ (10 ≤ dof D k ∧ dof D k < 16) := by omega
      have next : clK D ch k = false → ∀ (lv : LV), lk lv 2 = some (.int (nI k)) → lk lv 0 = some (.ref (w + 70)) → lk lv 1 = some (.int (nI ch)) → Go l G 2 s_X2_isClash 0 0 Post 93 lv [] h nx 0 0 := by
        intro hf lv l2 l0 l1
        refine go_loc (lv' := [(2, .int (nI k)), (0, .ref (w + 70)), (1, .int (nI ch))]) ⟨l2, l0, l1, trivial⟩ ?_
        refine Go.of hX.2 ck_X2_isClash [2] 20 ?_
        refine go_loc (lv' := [(2, .int (nI k + 1)), (0, .ref (w + 70)), (1, .int (nI ch))]) ⟨rfl, rfl, rfl, trivial⟩ ?_
        rw [← nI_succ]
        exact ih (k + 1) (by omega) (fun j hj => by
          by_cases e : j = k
          · rw [e]; exact hf
          · exact hno j (by omega))
      refine Go.of hX.2 ck_X2_isClash [93] 80 ?_
      refine Exists.intro _ (And.intro e0 (Exists.intro _ (And.intro rfl ?_)))
      refine Exists.intro _ (And.intro d0 (Exists.intro _ (And.intro rfl ?_)))
      refine And.intro (fun cz => absurd cz (nI_ge (a := k) (b := dK D) hkK (by omega))) (fun _ => ?_)
      refine And.intro (fun cz => absurd cz (nI_ge (a := k) (b := 40) (by omega) (by decide))) (fun _ => ?_)
      refine Exists.intro _ (And.intro e0 (Exists.intro _ (And.intro rfl ?_)))
      refine Exists.intro _ (And.intro d0 (Exists.intro _ (And.intro rfl ?_)))
      refine Exists.intro _ (And.intro d6 (Exists.intro _ (And.intro rfl ?_)))
      refine Exists.intro _ (Exists.intro _ (And.intro d13 (And.intro (vp_in_nI (by omega) (by decide)) ?_)))
      rw [nI_clamp (show k < 2 ^ 31 by omega), r2]
      refine Exists.intro _ (And.intro e0 (Exists.intro _ (And.intro rfl ?_)))
      refine Exists.intro _ (And.intro d0 (Exists.intro _ (And.intro rfl ?_)))
      refine Exists.intro _ (Exists.intro _ (And.intro d18 (And.intro (vp_in_nI (by omega) (by decide)) ?_)))
      rw [nI_clamp (show k < 2 ^ 31 by omega), r1]
      by_cases b1 : dof D k < 5
      · rw [if_pos b1]
        refine And.intro (fun _ => ?_) (fun cz => absurd (nI_le (a := 6) (b := 6 + dof D k) (by omega) (by omega)) cz)
        refine And.intro (fun _ => ?_) (fun cz => by first | exact absurd cz (by decide) | exact absurd (by decide) cz)
        exact next (by unfold clK; rw [decide_eq_false (show ¬ 10 ≤ dof D k by omega)]; rfl) _ rfl rfl rfl
      · rw [if_neg b1]
        refine And.intro (fun cz => absurd cz (nI_ge (a := dof D k - 10) (b := 6) (by omega) (by decide))) (fun _ => ?_)
        by_cases b2 : dow D k < 6
        · refine And.intro (fun cz => absurd cz (nI_ge (a := dow D k) (b := 6) b2 (by decide))) (fun _ => ?_)
          by_cases b3 : dof D k - 10 = dow D k
          · refine And.intro (fun _ => ?_) (fun cz => absurd (show nI (dof D k - 10) = nI (dow D k) from by rw [b3]) cz)
            refine And.intro (fun _ => ?_) (fun cz => by first | exact absurd cz (by decide) | exact absurd (by decide) cz)
            exact next (by unfold clK; rw [decide_eq_false (show ¬ (dof D k - 10 ≠ dow D k) from fun z => z b3)]; simp) _ rfl rfl rfl
          · refine And.intro (fun cz => absurd cz (fun z => b3 ((nI_eq (by omega) (by omega)).mp z))) (fun _ => ?_)
            refine And.intro (fun cz => by first | exact absurd cz (by decide) | exact absurd (by decide) cz) (fun _ => ?_)
            have n1 := nx_tb0 (a := ch) (k := dof D k - 10) hc (by omega)
            have n2 := nx_tb0 (a := ch) (k := dow D k) hc (by omega)
            cases b4 : ch.testBit (dof D k - 10) with
            | false =>
              refine And.intro (fun _ => ?_) (fun cz => absurd (n1.mpr b4) cz)
              exact next (by unfold clK; rw [b4]; simp) _ rfl rfl rfl
            | true =>
              refine And.intro (fun cz => absurd cz (fun z => by rw [n1.mp z] at b4; cases b4)) (fun _ => ?_)
              cases b5 : ch.testBit (dow D k) with
              | false =>
                refine And.intro (fun _ => ?_) (fun cz => absurd (n2.mpr b5) cz)
                exact next (by unfold clK; rw [b5]; simp) _ rfl rfl rfl
              | true =>
                refine And.intro (fun cz => absurd cz (fun z => by rw [n2.mp z] at b5; cases b5)) (fun _ => ?_)
                have ev : hClash D ch = true := by
                  unfold hClash
                  rw [List.any_eq_true]
                  exact ⟨k, List.mem_range.mpr hkK, by unfold clK; rw [b4, b5, decide_eq_true (show 10 ≤ dof D k by omega), decide_eq_true b2, decide_eq_true b3]; rfl⟩
                rw [ev] at hP
                exact And.intro rfl (hP)
        · refine And.intro (fun _ => ?_) (fun cz => absurd (nI_le (a := 6) (b := dow D k) (by omega) (by omega)) cz)
          refine And.intro (fun _ => ?_) (fun cz => by first | exact absurd cz (by decide) | exact absurd (by decide) cz)
          exact next (by unfold clK; rw [decide_eq_false b2]; simp) _ rfl rfl rfl
  refine en_X2_isClash hX [2] 20 rfl ?_
  exact go_loc (lv' := [(2, .int (nI 0)), (0, .ref (w + 70)), (1, .int (nI ch))]) ⟨rfl, rfl, rfl, trivial⟩ (loop (dK D) 0 (Nat.zero_add _) (fun j hj => absurd hj (Nat.not_lt_zero j)))
set_option maxHeartbeats 8000000 in
theorem x_goRound {l : Launch} {G : GG} {h : AH} {nx : Nat} {Post : Option Value → AH → Nat → Prop} {w a : Nat} {D : DD} {s : HWk} (hX : XC G ∧ TX l G) (hW : XHw h w a s) (hD : XD h a D) (hw : WD D) (hs : WHs D s) (ha : a = w + 1 ∨ w + 137 ≤ a) (hP : ∀ h1 : AH, (∀ x, x < w + 70 ∨ w + 73 ≤ x → h1 x = h x) → XHw h1 w a (hRnd D s) → Post (some (.int (nI (hCh D s)))) h1 nx) : Runs l G i_X2_goRound 0 0 [.ref (w + 70)] h nx Post := by
  obtain ⟨z, ga, gw, e0, e1, e2, p1, p2⟩ := id hW
  have hr := hw.r
  have hpr := hw.pr
  have hup : hUp s < 64 := by have := hs.2.1; omega
  have h2048 := hSh_lt D s
  have hW1 : hSh D s &&& 63 < 64 := Nat.and_lt_two_pow (n := 6) _ (by decide)
  have tW : ∀ i, (hSh D s &&& 63).testBit i = (decide (i < 6) && (hSh D s).testBit i) := fun i => by
    rw [show (63 : Nat) = 2 ^ 6 - 1 from rfl, Nat.and_two_pow_sub_one_eq_mod, Nat.testBit_mod_two_pow]
  have fin : ∀ (g : Nat → Int32) (c : Nat), (∀ r, r < 6 → g r = nI (hWn D s r)) → c = hCh D s → Go l G 2 s_X2_goRound 0 0 Post 109 [(2, .int (nI c)), (0, .ref (w + 70))] [] (uph h (w + 72) (.inl (0, 6, .inl g))) nx 0 0 := by
    intro g c hg hc
    have hD1 : XD (uph h (w + 72) (.inl (0, 6, .inl g))) a D := hD.ag (fun x hx => uph_ne (by omega))
    have e0b : uph h (w + 72) (.inl (0, 6, .inl g)) (w + 70) = some (.inr (2, [.ref a, .int (nI (hOn s)), .int (nI (hUp s)), .long z, .int (nI (hCl s).toNat), .ref (w + 71), .ref (w + 72)])) := (uph_ne (by omega)).trans e0
    have hcl := hCh_lt hs
    refine Go.of hX.2 ck_X2_goRound [] 60 ?_
    refine Exists.intro _ (And.intro e0b (Exists.intro _ (And.intro rfl ?_)))
    refine Exists.intro _ (And.intro e0b (And.intro (Nat.le_of_ble_eq_true rfl) (And.intro rfl (And.intro rfl ?_))))
    have W2 : XHw (uph (uph h (w + 72) (.inl (0, 6, .inl g))) (w + 70) (.inr (2, [.ref a, .int (nI (hOn s)), .int (nI (hUp s) ^^^ nI c), .long z, .int (nI (hCl s).toNat), .ref (w + 71), .ref (w + 72)]))) w a ((hOn s, hUp s ^^^ c, hCl s), hSt s, hAg s, hWn D s) := ⟨z, ga, g, by rw [uph_eq, nx_xor]; rfl, by rw [uph_ne (by omega), uph_ne (by omega)]; exact e1, by rw [uph_ne (by omega)]; exact uph_eq, p1, fun r hr => ⟨(p2 r hr).1, hg r hr⟩⟩
    have hD2 : XD (uph (uph h (w + 72) (.inl (0, 6, .inl g))) (w + 70) (.inr (2, [.ref a, .int (nI (hOn s)), .int (nI (hUp s) ^^^ nI c), .long z, .int (nI (hCl s).toNat), .ref (w + 71), .ref (w + 72)]))) a D := hD1.ag (fun x hx => uph_ne (by omega))
    refine Exists.intro _ (And.intro uph_eq (Exists.intro 0 (Exists.intro 0 (And.intro (Nat.le_refl _) (And.intro (Nat.le_refl _) (x_isClash hX W2 hD2 hw (by omega) ?_))))))
    refine Exists.intro _ (And.intro uph_eq (And.intro (Nat.le_of_ble_eq_true rfl) (And.intro (by cases hClash D c <;> rfl) (And.intro (by cases hClash D c <;> rfl) ?_))))
    refine And.intro rfl ?_
    have hP := hP (uph (uph (uph h (w + 72) (.inl (0, 6, .inl g))) (w + 70) (.inr (2, [.ref a, .int (nI (hOn s)), .int (nI (hUp s) ^^^ nI c), .long z, .int (nI (hCl s).toNat), .ref (w + 71), .ref (w + 72)]))) (w + 70) (.inr (2, [.ref a, .int (nI (hOn s)), .int (nI (hUp s) ^^^ nI c), .long z, .int (nI (hClash D c).toNat), .ref (w + 71), .ref (w + 72)]))) (fun x hx => by rw [uph_ne (by omega), uph_ne (by omega), uph_ne (by omega)]) ⟨z, ga, g, by rw [uph_eq, nx_xor, hc]; rfl, by rw [uph_ne (by omega), uph_ne (by omega), uph_ne (by omega)]; exact e1, by rw [uph_ne (by omega), uph_ne (by omega)]; exact uph_eq, p1, fun r hr => ⟨(p2 r hr).1, hg r hr⟩⟩
    rw [← hc] at hP
    exact hP
  have loop : ∀ (m r : Nat) (g : Nat → Int32) (c : Nat), r + m = 6 → (∀ j, j < 6 → g j = nI (if j < r then hWn D s j else hWt s j)) → c < 64 → (∀ i, c.testBit i = (decide (i < 6) && (((hSh D s).testBit i && !(hUp s).testBit i) || (decide (i < r) && hLt D s i)))) → Go l G 2 s_X2_goRound 0 0 Post 19 [(3, .int (nI r)), (2, .int (nI c)), (1, .int (nI (hSh D s &&& 63))), (0, .ref (w + 70))] [] (uph h (w + 72) (.inl (0, 6, .inl g))) nx 0 0 := by
    intro m
    induction m with
    | zero =>
      intro r g c hr2 hg hc hcb
      have e : r = 6 := by omega
      subst e
      refine Go.of hX.2 ck_X2_goRound [109] 20 ?_
      refine And.intro (fun _ => ?_) (fun cz => by first | exact absurd cz (by decide) | exact absurd (by decide) cz)
      refine go_loc (lv' := [(2, .int (nI c)), (0, .ref (w + 70))]) ⟨rfl, rfl, trivial⟩ ?_
      refine fin g c (fun r hr => by rw [hg r hr, if_pos hr]) (Nat.eq_of_testBit_eq (fun i => ?_))
      rw [hcb i]
      unfold hCh
      rw [bsum_tb]
      by_cases h6 : i < 6
      · rw [decide_eq_true h6, Bool.true_and, Bool.true_and, Bool.true_and]
      · rw [decide_eq_false h6, Bool.false_and, Bool.false_and]
    | succ m ih =>
      intro r g c hr2 hg hc hcb
      have hr6 : r < 6 := by omega
      have e0b : uph h (w + 72) (.inl (0, 6, .inl g)) (w + 70) = some (.inr (2, [.ref a, .int (nI (hOn s)), .int (nI (hUp s)), .long z, .int (nI (hCl s).toNat), .ref (w + 71), .ref (w + 72)])) := (uph_ne (by omega)).trans e0
      have hD1 : XD (uph h (w + 72) (.inl (0, 6, .inl g))) a D := hD.ag (fun x hx => uph_ne (by omega))
      have e1b : uph h (w + 72) (.inl (0, 6, .inl g)) (w + 71) = some (.inl (0, 6, .inl ga)) := (uph_ne (by omega)).trans e1
      have d0 := hD1
      obtain ⟨cc, g2, g3, g4, g5, g10, g13, g14, g16, g17, g18, g19, g27, g28, g1, g11, g12, d0, _⟩ := d0
      have hgr : g r = nI (hWt s r) := by rw [hg r hr6, if_neg (Nat.lt_irrefl r)]
      have tst : ((nI (hUp s) &&& (nI (hSh D s &&& 63) ^^^ (-1))) &&& ((1 : Int32) <<< (nI r &&& 31))) = 0 ↔ hDr D s r = false := by
        rw [nx_andn, nx_has (by omega), Nat.testBit_xor, Nat.testBit_and, tW, decide_eq_true hr6, Bool.true_and]
        unfold hDr
        cases (hUp s).testBit r <;> cases (hSh D s).testBit r <;> decide
      have hag := hs.2.2.2.1 r
      have hwt := hs.2.2.2.2 r
      have nxt : ∀ (v : Int32) (c2 : Nat), v = nI (hWn D s r) → c2 = (if hLt D s r = true then c ||| 2 ^ r else c) → Go l G 2 s_X2_goRound 0 0 Post 19 [(3, .int (nI r + 1)), (2, .int (nI c2)), (1, .int (nI (hSh D s &&& 63))), (0, .ref (w + 70))] [] (uph h (w + 72) (.inl (0, 6, .inl (upd g r v)))) nx 0 0 := by
        intro v c2 hv hc2
        rw [← nI_succ]
        refine ih (r + 1) _ c2 (by omega) (fun j hj => ?_) ?_ (fun i => ?_)
        · by_cases e : j = r
          · rw [e, pk_us, if_pos (Nat.lt_succ_self r), hv]
          · rw [pk_un e, hg j hj]
            by_cases e2 : j < r
            · rw [if_pos e2, if_pos (by omega)]
            · rw [if_neg e2, if_neg (by omega)]
        · rw [hc2]
          split
          · exact Nat.or_lt_two_pow (n := 6) hc (Nat.pow_lt_pow_right (by decide) hr6)
          · exact hc
        · rw [hc2]
          have hci := hcb i
          by_cases e : i = r
          · subst e
            rw [decide_eq_true (Nat.lt_succ_self i), Bool.true_and]
            rw [decide_eq_false (Nat.lt_irrefl i), Bool.false_and, Bool.or_false] at hci
            cases hl : hLt D s i with
            | false =>
              rw [if_neg (by decide), Bool.or_false]
              exact hci
            | true =>
              rw [if_pos rfl, Nat.testBit_or, Nat.testBit_two_pow_self, Bool.or_true, Bool.or_true, decide_eq_true hr6]
              rfl
          · have ed : decide (i < r + 1) = decide (i < r) := by
              by_cases e2 : i < r
              · rw [decide_eq_true e2, decide_eq_true (by omega)]
              · rw [decide_eq_false e2, decide_eq_false (by omega)]
            rw [ed, ← hci]
            split
            · rw [Nat.testBit_or, Nat.testBit_two_pow_of_ne (Ne.symm e), Bool.or_false]
            · rfl
      refine Go.of hX.2 ck_X2_goRound [19] 100 ?_
      refine And.intro (fun cz => absurd cz (nI_ge (a := r) (b := 6) hr6 (by decide))) (fun _ => ?_)
      refine Exists.intro _ (And.intro e0b (Exists.intro _ (And.intro rfl ?_)))
      cases hdr : hDr D s r with
      | false =>
        have hlt : hLt D s r = false := by unfold hLt; rw [hdr]; rfl
        refine And.intro (fun cz => absurd (tst.mpr hdr) cz) (fun _ => ?_)
        refine Exists.intro _ (And.intro e0b (Exists.intro _ (And.intro rfl ?_)))
        refine Exists.intro _ (Exists.intro _ (And.intro uph_eq (And.intro (vp_in_nI hr6 (by decide)) ?_)))
        rw [uph_uph, nI_clamp (show r < 2 ^ 31 by omega)]
        exact go_loc (lv' := [(3, .int (nI r + 1)), (2, .int (nI c)), (1, .int (nI (hSh D s &&& 63))), (0, .ref (w + 70))]) ⟨rfl, rfl, rfl, rfl, trivial⟩ (nxt 0 c (by unfold hWn; rw [hdr]; rfl) (by rw [hlt]; rfl))
      | true =>
        have hrR := hDr_r hs hdr
        have hsl := hw.s r hrR
        refine And.intro (fun _ => ?_) (fun cz => absurd cz (fun z => by rw [tst.mp z] at hdr; cases hdr))
        refine Exists.intro _ (And.intro e0b (Exists.intro _ (And.intro rfl ?_)))
        refine Exists.intro _ (Exists.intro _ (And.intro uph_eq (And.intro (vp_in_nI hr6 (by decide)) ?_)))
        rw [nI_clamp (show r < 2 ^ 31 by omega), hgr]
        refine Exists.intro _ (And.intro e0b (Exists.intro _ (And.intro rfl ?_)))
        refine Exists.intro _ (And.intro d0 (Exists.intro 0 (Exists.intro 0 (And.intro (Nat.le_refl _) (And.intro (Nat.le_refl _) (c_slowOf hX (hD1.dx hw) hrR ?_))))))
        refine Exists.intro _ (And.intro e0b (Exists.intro _ (And.intro rfl ?_)))
        refine Exists.intro _ (Exists.intro _ (And.intro e1b (And.intro (vp_in_nI hr6 (by decide)) ?_)))
        rw [nI_clamp (show r < 2 ^ 31 by omega), (p2 r hr6).1]
        have ea : nI (dsl D r) + nI (hAg s r) = nI (dsl D r + hAg s r) := nI_add _ _
        by_cases cl : dsl D r + hAg s r ≤ hWt s r
        · have hlt : hLt D s r = true := by unfold hLt; rw [hdr, decide_eq_true cl]; rfl
          refine And.intro (fun cz => absurd cz (show ¬ nI (hWt s r) < nI (dsl D r) + nI (hAg s r) from by rw [ea]; exact nI_nlt cl (by omega))) (fun _ => ?_)
          refine Exists.intro _ (And.intro e0b (Exists.intro _ (And.intro rfl ?_)))
          refine Exists.intro _ (Exists.intro _ (And.intro uph_eq (And.intro (vp_in_nI hr6 (by decide)) ?_)))
          rw [uph_uph, nI_clamp (show r < 2 ^ 31 by omega)]
          have e9 : nI c ||| ((1 : Int32) <<< (nI r &&& 31)) = nI (c ||| 2 ^ r) := by rw [nx_pow (by omega), nx_or]
          refine go_loc (lv' := [(3, .int (nI r + 1)), (2, .int (nI c ||| ((1 : Int32) <<< (nI r &&& 31)))), (1, .int (nI (hSh D s &&& 63))), (0, .ref (w + 70))]) ⟨rfl, rfl, rfl, rfl, trivial⟩ ?_
          rw [e9]
          exact nxt 0 _ (by unfold hWn; rw [hlt, hdr]; rfl) (by rw [hlt]; rfl)
        · have hlt : hLt D s r = false := by unfold hLt; rw [hdr, decide_eq_false cl]; rfl
          refine And.intro (fun _ => ?_) (fun cz => absurd (show nI (hWt s r) < nI (dsl D r) + nI (hAg s r) from by rw [ea]; exact nI_lt (by omega) (by omega)) cz)
          refine Exists.intro _ (And.intro e0b (Exists.intro _ (And.intro rfl ?_)))
          refine Exists.intro _ (Exists.intro _ (And.intro uph_eq (And.intro (vp_in_nI hr6 (by decide)) ?_)))
          refine Exists.intro _ (Exists.intro _ (And.intro uph_eq (And.intro (vp_in_nI hr6 (by decide)) ?_)))
          rw [uph_uph, nI_clamp (show r < 2 ^ 31 by omega), hgr]
          exact go_loc (lv' := [(3, .int (nI r + 1)), (2, .int (nI c)), (1, .int (nI (hSh D s &&& 63))), (0, .ref (w + 70))]) ⟨rfl, rfl, rfl, rfl, trivial⟩ (nxt _ c (by unfold hWn; rw [hdr, hlt]; exact (nI_succ _).symm) (by rw [hlt]; rfl))
  refine en_X2_goRound hX [19] 60 rfl ?_
  refine Exists.intro _ (And.intro e0 (Exists.intro 0 (Exists.intro 0 (And.intro (Nat.le_refl _) (And.intro (Nat.le_refl _) (x_circuitsNow hX hW hD hw hs ?_))))))
  refine Exists.intro _ (And.intro e0 (Exists.intro _ (And.intro rfl ?_)))
  rw [← uph_self e2]
  have ew : nI (hSh D s) &&& 63 = nI (hSh D s &&& 63) := by rw [show (63 : Int32) = nI 63 from rfl, nx_and]
  have ec : nI (hSh D s &&& 63) &&& (nI (hUp s) ^^^ (-1)) = nI ((hSh D s &&& 63) ^^^ ((hSh D s &&& 63) &&& hUp s)) := nx_andn _ _
  refine go_loc (lv' := [(3, .int (nI 0)), (2, .int ((nI (hSh D s) &&& 63) &&& (nI (hUp s) ^^^ (-1)))), (1, .int (nI (hSh D s) &&& 63)), (0, .ref (w + 70))]) ⟨rfl, rfl, rfl, rfl, trivial⟩ ?_
  rw [ew, ec]
  refine loop 6 0 gw _ rfl (fun j hj => by rw [if_neg (Nat.not_lt_zero _)]; exact (p2 j hj).2) (Nat.xor_lt_two_pow (n := 6) hW1 (Nat.lt_of_le_of_lt Nat.and_le_left hW1)) (fun i => ?_)
  rw [Nat.testBit_xor, Nat.testBit_and (hSh D s &&& 63), tW, decide_eq_false (Nat.not_lt_zero _), Bool.false_and, Bool.or_false]
  cases decide (i < 6) <;> cases (hSh D s).testBit i <;> cases (hUp s).testBit i <;> rfl
noncomputable def hTell (D : DD) (s : HWk) (what : Int32) : Int32 := if what = 0 then nI (hOn s) else if what = 1 then nI (hUp s) else if what = 2 then nI (hSh D s >>> 6) else if what = 3 then nI (pqN (hSt s) 40) else if what = 4 then (if (hSh D s >>> 6) &&& nvF (dlp D) (fun k => dNV D k (hOn s) (hUp s)) (dV D) = 0 then 0 else 1) else -1
theorem nv_lt32 {D : DD} (hw : WD D) {on up : Nat} : nvF (dlp D) (fun k => dNV D k on up) (dV D) < 32 := nvF_lt (fun k hk => by have := (hw.n k hk).1; have := hw.l; omega)
theorem sh6 {n : Nat} (h : n < 2048) : nI n >>> ((6 : Int32) &&& 31) = nI (n >>> 6) := nx_shr (k := 6) (by omega) (by decide)
theorem and_0 {a b : Nat} (hb : b < 32) : (nI a &&& nI b) = 0 ↔ a &&& b = 0 := by
  have h : a &&& b < 32 := Nat.lt_of_le_of_lt Nat.and_le_right hb
  rw [nx_and]
  exact nI_eq (b := 0) (by omega) (by decide)
set_option maxHeartbeats 8000000 in
theorem x_tell {l : Launch} {G : GG} {h : AH} {nx : Nat} {Post : Option Value → AH → Nat → Prop} {w a : Nat} {what : Int32} {D : DD} {s : HWk} (hX : XC G ∧ TX l G) (hW : XHw h w a s) (hD : XD h a D) (hw : WD D) (hs : WHs D s) (hP : Post (some (.int (hTell D s what))) h nx) : Runs l G i_X2_tell 0 0 [.ref (w + 70), .int what] h nx Post := by
  obtain ⟨z, ga, gw, e0, e1, e2, p1, p2⟩ := id hW
  obtain ⟨cc, g2, g3, g4, g5, g10, g13, g14, g16, g17, g18, g19, g27, g28, g1, g11, g12, d0, _⟩ := id hD
  have h2048 := hSh_lt D s
  have hi := hw.i
  have hr := hw.r
  have hpi := hw.pi
  have hpr := hw.pr
  have hon := hs.1
  have hup := hs.2.1
  have hk := hw.k
  refine en_X2_tell hX [] 80 rfl ?_
  refine Exists.intro _ (And.intro e0 (Exists.intro 0 (Exists.intro 0 (And.intro (Nat.le_refl _) (And.intro (Nat.le_refl _) (x_circuitsNow hX hW hD hw hs ?_))))))
  refine And.intro (fun hd => ?_) (And.intro (fun h0 => ?_) (And.intro (fun h0 => ?_) (And.intro (fun h0 => ?_) (And.intro (fun h0 => ?_) (And.intro (fun h0 => ?_) trivial)))))
  · have hP2 : Post (some (.int (-1))) h nx := by
      unfold hTell at hP
      rw [if_neg (fun e => by rw [e] at hd; exact absurd hd (by decide)), if_neg (fun e => by rw [e] at hd; exact absurd hd (by decide)), if_neg (fun e => by rw [e] at hd; exact absurd hd (by decide)), if_neg (fun e => by rw [e] at hd; exact absurd hd (by decide)), if_neg (fun e => by rw [e] at hd; exact absurd hd (by decide))] at hP
      exact hP
    exact And.intro rfl (hP2)
  · have e : what = 0 := h0.trans (by decide)
    subst e
    refine Exists.intro _ (And.intro e0 (Exists.intro _ (And.intro rfl ?_)))
    exact And.intro rfl (show Post (some (.int (nI (hOn s)))) h nx from hP)
  · have e : what = 1 := h0.trans (by decide)
    subst e
    refine Exists.intro _ (And.intro e0 (Exists.intro _ (And.intro rfl ?_)))
    exact And.intro rfl (show Post (some (.int (nI (hUp s)))) h nx from hP)
  · have e : what = 2 := h0.trans (by decide)
    subst e
    refine And.intro rfl ?_
    show Post (some (.int (nI (hSh D s) >>> ((6 : Int32) &&& 31)))) h nx
    rw [sh6 h2048]
    exact hP
  · have e : what = 3 := h0.trans (by decide)
    subst e
    refine Exists.intro _ (And.intro e0 (Exists.intro _ (And.intro rfl ?_)))
    refine Exists.intro 0 (Exists.intro 0 (And.intro (Nat.le_refl _) (And.intro (Nat.le_refl _) (c_bitCountL (f := hSt s) hX p1 (fun k hk2 => by have := hs.2.2.1 k hk2; omega) ?_))))
    exact And.intro rfl (show Post (some (.int (nI (pqN (hSt s) 40)))) h nx from hP)
  · have e : what = 4 := h0.trans (by decide)
    subst e
    have hP2 : Post (some (.int (if (hSh D s >>> 6) &&& nvF (dlp D) (fun k => dNV D k (hOn s) (hUp s)) (dV D) = 0 then 0 else 1))) h nx := hP
    have h32 := nv_lt32 (D := D) hw (on := hOn s) (up := hUp s)
    refine Exists.intro _ (And.intro e0 (Exists.intro _ (And.intro rfl ?_)))
    refine Exists.intro _ (And.intro e0 (Exists.intro _ (And.intro rfl ?_)))
    refine Exists.intro _ (And.intro e0 (Exists.intro _ (And.intro rfl ?_)))
    refine Exists.intro 0 (Exists.intro 0 (And.intro (Nat.le_refl _) (And.intro (Nat.le_refl _) (c_wordOf hX ?_))))
    rw [wordI (by omega) (by omega)]
    refine Exists.intro _ (And.intro d0 (Exists.intro 0 (Exists.intro 0 (And.intro (Nat.le_refl _) (And.intro (Nat.le_refl _) (c_forbiddenAt hX (hD.fb hw) (by omega) ?_))))))
    have ed : (64 * hOn s + hUp s) / 64 = hOn s := by omega
    have em : (64 * hOn s + hUp s) % 64 = hUp s := by omega
    rw [ed, em]
    have tz := and_0 (a := hSh D s >>> 6) (b := nvF (dlp D) (fun k => dNV D k (hOn s) (hUp s)) (dV D)) h32
    rw [← sh6 h2048] at tz
    by_cases c : (hSh D s >>> 6) &&& nvF (dlp D) (fun k => dNV D k (hOn s) (hUp s)) (dV D) = 0
    · rw [if_pos c] at hP2
      refine And.intro (fun _ => ?_) (fun cz => absurd (tz.mpr c) cz)
      exact And.intro rfl (hP2)
    · rw [if_neg c] at hP2
      refine And.intro (fun cz => absurd cz (fun z => c (tz.mp z))) (fun _ => ?_)
      exact And.intro rfl (hP2)
set_option maxHeartbeats 8000000 in
theorem x_set {l : Launch} {G : GG} {h : AH} {nx : Nat} {Post : Option Value → AH → Nat → Prop} {o w tl c a : Nat} {fp ah i : Int32} {b : Bool} {da : Nat → Nat} {dd : Nat → DD} {D : DD} {s : HWk} (hX : XC G ∧ TX l G) (hA : XA h o w tl fp c ah da dd) (hW : XHw h w a s) (hD : XD h a D) (hw : WD D) (hP : ∀ h1 : AH, (∀ x, x < w + 70 ∨ w + 73 ≤ x → h1 x = h x) → XHw h1 w a (hSet D s i b) → Post (some (.int (nI (inR i (dI D)).toNat))) h1 nx) : Runs l G i_X11_set 0 0 [.ref o, .int i, .int (nI b.toNat)] h nx Post := by
  obtain ⟨z, ga, gw, e0, _⟩ := id hW
  refine en_X11_set hX [] 30 rfl ?_
  refine Exists.intro _ (And.intro hA.1 (Exists.intro _ (And.intro rfl ?_)))
  refine Exists.intro _ (And.intro e0 (Exists.intro 0 (Exists.intro 0 (And.intro (Nat.le_refl _) (And.intro (Nat.le_refl _) (x_setInput hX hW hD hw (fun h1 y1 y2 => ?_)))))))
  exact And.intro (nar_bb _) (hP h1 y1 y2)
set_option maxHeartbeats 8000000 in
theorem x_strap {l : Launch} {G : GG} {h : AH} {nx : Nat} {Post : Option Value → AH → Nat → Prop} {o w tl c a : Nat} {fp ah i : Int32} {b : Bool} {da : Nat → Nat} {dd : Nat → DD} {D : DD} {s : HWk} (hX : XC G ∧ TX l G) (hA : XA h o w tl fp c ah da dd) (hW : XHw h w a s) (hD : XD h a D) (hw : WD D) (hP : ∀ h1 : AH, (∀ x, x < w + 70 ∨ w + 73 ≤ x → h1 x = h x) → XHw h1 w a (hStrap D s i b) → Post (some (.int (nI (inR i (dK D)).toNat))) h1 nx) : Runs l G i_X11_strap 0 0 [.ref o, .int i, .int (nI b.toNat)] h nx Post := by
  obtain ⟨z, ga, gw, e0, _⟩ := id hW
  refine en_X11_strap hX [] 30 rfl ?_
  refine Exists.intro _ (And.intro hA.1 (Exists.intro _ (And.intro rfl ?_)))
  refine Exists.intro _ (And.intro e0 (Exists.intro 0 (Exists.intro 0 (And.intro (Nat.le_refl _) (And.intro (Nat.le_refl _) (x_layStrap hX hW hD hw (fun h1 y1 y2 => ?_)))))))
  exact And.intro (nar_bb _) (hP h1 y1 y2)
set_option maxHeartbeats 8000000 in
theorem x_age {l : Launch} {G : GG} {h : AH} {nx : Nat} {Post : Option Value → AH → Nat → Prop} {o w tl c a : Nat} {fp ah i v : Int32} {da : Nat → Nat} {dd : Nat → DD} {D : DD} {s : HWk} (hX : XC G ∧ TX l G) (hA : XA h o w tl fp c ah da dd) (hW : XHw h w a s) (hD : XD h a D) (hw : WD D) (hP : ∀ h1 : AH, (∀ x, x < w + 70 ∨ w + 73 ≤ x → h1 x = h x) → XHw h1 w a (hAge D s i v) → Post (some (.int (nI (ageB D i v).toNat))) h1 nx) : Runs l G i_X11_age 0 0 [.ref o, .int i, .int v] h nx Post := by
  obtain ⟨z, ga, gw, e0, _⟩ := id hW
  refine en_X11_age hX [] 30 rfl ?_
  refine Exists.intro _ (And.intro hA.1 (Exists.intro _ (And.intro rfl ?_)))
  refine Exists.intro _ (And.intro e0 (Exists.intro 0 (Exists.intro 0 (And.intro (Nat.le_refl _) (And.intro (Nat.le_refl _) (x_setAge hX hW hD hw (fun h1 y1 y2 => ?_)))))))
  exact And.intro (nar_bb _) (hP h1 y1 y2)
set_option maxHeartbeats 8000000 in
theorem x_round {l : Launch} {G : GG} {h : AH} {nx : Nat} {Post : Option Value → AH → Nat → Prop} {o w tl c t : Nat} {fp : Int32} {da : Nat → Nat} {dd : Nat → DD} {s : HWk} (hX : XC G ∧ TX l G) (hA : XA h o w tl fp c (nI t) da dd) (ht : t < c) (hW : XHw h w (da t) s) (hs : WHs (dd t) s) (hP : ∀ h1 : AH, (∀ x, x < w + 70 ∨ w + 73 ≤ x → h1 x = h x) → XHw h1 w (da t) (hRnd (dd t) s) → Post (some (.int (nI (hCh (dd t) s)))) h1 nx) : Runs l G i_X11_round 0 0 [.ref o] h nx Post := by
  have hdt : isDr w c da dd (da t) (dd t) := Or.inr ⟨t, ht, rfl, rfl⟩
  obtain ⟨hD, hw, ha⟩ := hdt.xd hA
  have hc := hA.2.2.1
  obtain ⟨z, ga, gw, e0, _⟩ := id hW
  refine en_X11_round hX [] 30 rfl ?_
  refine Exists.intro _ (And.intro hA.1 (Exists.intro _ (And.intro rfl ?_)))
  refine And.intro (fun _ => ?_) (fun cz => absurd cz ((nI_n2 (show t < 64 by omega)).2.2))
  refine Exists.intro _ (And.intro hA.1 (Exists.intro _ (And.intro rfl ?_)))
  refine Exists.intro _ (And.intro e0 (Exists.intro 0 (Exists.intro 0 (And.intro (Nat.le_refl _) (And.intro (Nat.le_refl _) (x_goRound hX hW hD hw hs ha (fun h1 y1 y2 => ?_)))))))
  exact And.intro rfl ((hP h1 y1 y2))
set_option maxHeartbeats 8000000 in
theorem x_clash {l : Launch} {G : GG} {h : AH} {nx : Nat} {Post : Option Value → AH → Nat → Prop} {o w tl c a : Nat} {fp ah : Int32} {da : Nat → Nat} {dd : Nat → DD} {s : HWk} (hX : XC G ∧ TX l G) (hA : XA h o w tl fp c ah da dd) (hW : XHw h w a s) (hP : Post (some (.int (nI (hCl s).toNat))) h nx) : Runs l G i_X11_clash 0 0 [.ref o] h nx Post := by
  obtain ⟨z, ga, gw, e0, _⟩ := id hW
  refine en_X11_clash hX [] 30 rfl ?_
  refine Exists.intro _ (And.intro hA.1 (Exists.intro _ (And.intro rfl ?_)))
  refine Exists.intro _ (And.intro e0 (Exists.intro 0 (Exists.intro 0 (And.intro (Nat.le_refl _) (And.intro (Nat.le_refl _) (x_hasClashed hX hW ?_))))))
  cases cl : hCl s with
  | false =>
    rw [cl] at hP
    refine And.intro (fun _ => ?_) (fun cz => by first | exact absurd cz (by decide) | exact absurd (by decide) cz)
    exact And.intro rfl (hP)
  | true =>
    rw [cl] at hP
    refine And.intro (fun cz => by first | exact absurd cz (by decide) | exact absurd (by decide) cz) (fun _ => ?_)
    exact And.intro rfl (hP)
set_option maxHeartbeats 8000000 in
theorem x_hand {l : Launch} {G : GG} {h : AH} {nx : Nat} {Post : Option Value → AH → Nat → Prop} {o w tl c t : Nat} {fp what : Int32} {da : Nat → Nat} {dd : Nat → DD} {s : HWk} (hX : XC G ∧ TX l G) (hA : XA h o w tl fp c (nI t) da dd) (ht : t < c) (hW : XHw h w (da t) s) (hs : WHs (dd t) s) (hP : Post (some (.int (hTell (dd t) s what))) h nx) : Runs l G i_X11_hand 0 0 [.ref o, .int what] h nx Post := by
  have hdt : isDr w c da dd (da t) (dd t) := Or.inr ⟨t, ht, rfl, rfl⟩
  obtain ⟨hD, hw, ha⟩ := hdt.xd hA
  have hc := hA.2.2.1
  obtain ⟨z, ga, gw, e0, _⟩ := id hW
  refine en_X11_hand hX [] 30 rfl ?_
  refine Exists.intro _ (And.intro hA.1 (Exists.intro _ (And.intro rfl ?_)))
  refine And.intro (fun _ => ?_) (fun cz => absurd cz ((nI_n2 (show t < 64 by omega)).2.2))
  refine Exists.intro _ (And.intro hA.1 (Exists.intro _ (And.intro rfl ?_)))
  refine Exists.intro _ (And.intro e0 (Exists.intro 0 (Exists.intro 0 (And.intro (Nat.le_refl _) (And.intro (Nat.le_refl _) (x_tell hX hW hD hw hs ?_))))))
  exact And.intro rfl (hP)
