/-! rounds by hand, the model: a round -/
theorem nx_tb1 {a k : Nat} {b : Bool} (ha : a < 2 ^ 31) (hk : k < 32) (hb : a.testBit k = b) : (nI a >>> (nI k &&& 31)) &&& 1 = nI b.toNat := by rw [nx_tb ha hk, hb]
set_option maxHeartbeats 8000000 in
theorem m_isIn {l : Launch} {G : GG} {h : AH} {nx : Nat} {Post : Option Value → AH → Nat → Prop} {o d r y : Nat} {D : DD} {fs : List Value} (hX : XC G ∧ TX l G) (hM : MA h o fs) (f19 : fs[19]? = some (.int (nI d))) (hD : MPg h o d D) (hw : WD D) (hr : r < 6) (hy : y < 6) (h1 : (∃ k, k < dK D ∧ dow D k = y ∧ dof D k = 10 + r) → Post (some (.int 1)) h nx) (h0 : (¬ ∃ k, k < dK D ∧ dow D k = y ∧ dof D k = 10 + r) → Post (some (.int 0)) h nx) (hP : True) : Runs l G i_X12_isIn 0 0 [.ref o, .int (nI r), .int (nI y)] h nx Post := by
  have hd := hD.2.2.2.2.2.2.2
  obtain ⟨⟨trk, gm, go, gn, gR, gL, gf, gt, gk, d8, d18, d20, d21, d10, d13, d23, d24, d27, hd5, pm, pK, pR, pR6, pL, pL5, po, _⟩, ⟨gw, d19, pw⟩, _⟩ := id hD
  have hk := hw.k
  have e40 : (40 : Int32) * nI d = nI (40 * d) := by rw [show (40 : Int32) = nI 40 from rfl, nI_mul]
  have loop : ∀ (m k : Nat), k + m = dK D → (∀ j, j < k → ¬ (dow D j = y ∧ dof D j = 10 + r)) → Go l G 12 s_X12_isIn 0 0 Post 8 [(3, .int (nI (40 * d + k))), (0, .ref o), (1, .int (nI r)), (2, .int (nI y))] [] h nx 0 0 := by
    intro m
    induction m with
    | zero =>
      intro k hk2 hno
      have e : k = dK D := by omega
      subst e
      refine Go.of hX.2 ck_X12_isIn [8] 40 ?_
      refine Exists.intro _ (And.intro hM.1 (Exists.intro _ (And.intro f19 ?_)))
      refine Exists.intro _ (And.intro hM.1 (Exists.intro _ (And.intro (hM.2.2 18 (by decide)) ?_)))
      refine Exists.intro _ (And.intro hM.1 (Exists.intro _ (And.intro f19 ?_)))
      refine Exists.intro _ (Exists.intro _ (And.intro d18 (And.intro (vp_in_nI hd (by decide)) ?_)))
      rw [nI_clamp (show d < 2 ^ 31 by omega), pm]
      refine And.intro (fun _ => ?_) (fun cz => absurd (show (40 : Int32) * nI d + nI (dK D) ≤ nI (40 * d + dK D) from by rw [e40, nI_add]; exact Int32.le_refl _) cz)
      exact And.intro rfl ((h0 (fun ⟨j, j1, j2⟩ => hno j j1 j2)))
    | succ m ih =>
      intro k hk2 hno
      have hkK : k < dK D := by omega
      obtain ⟨q1, q2, q3⟩ := po k hkK
      obtain ⟨w1, w2⟩ := pw k hkK
      have next : ¬ (dow D k = y ∧ dof D k = 10 + r) → ∀ (lv : LV), lk lv 3 = some (.int (nI (40 * d + k))) → lk lv 0 = some (.ref o) → lk lv 1 = some (.int (nI r)) → lk lv 2 = some (.int (nI y)) → Go l G 12 s_X12_isIn 0 0 Post 54 lv [] h nx 0 0 := by
        intro hf lv l3 l0 l1 l2
        refine go_loc (lv' := [(3, .int (nI (40 * d + k))), (0, .ref o), (1, .int (nI r)), (2, .int (nI y))]) ⟨l3, l0, l1, l2, trivial⟩ ?_
        refine Go.of hX.2 ck_X12_isIn [8] 20 ?_
        refine go_loc (lv' := [(3, .int (nI (40 * d + k) + 1)), (0, .ref o), (1, .int (nI r)), (2, .int (nI y))]) ⟨rfl, rfl, rfl, rfl, trivial⟩ ?_
        rw [← nI_succ]
        exact ih (k + 1) (by omega) (fun j hj => by
          by_cases e : j = k
          · rw [e]; exact hf
          · exact hno j (by omega))
      refine Go.of hX.2 ck_X12_isIn [54] 60 ?_
      refine Exists.intro _ (And.intro hM.1 (Exists.intro _ (And.intro f19 ?_)))
      refine Exists.intro _ (And.intro hM.1 (Exists.intro _ (And.intro (hM.2.2 18 (by decide)) ?_)))
      refine Exists.intro _ (And.intro hM.1 (Exists.intro _ (And.intro f19 ?_)))
      refine Exists.intro _ (Exists.intro _ (And.intro d18 (And.intro (vp_in_nI hd (by decide)) ?_)))
      rw [nI_clamp (show d < 2 ^ 31 by omega), pm]
      refine And.intro (fun cz => absurd cz (show ¬ (40 : Int32) * nI d + nI (dK D) ≤ nI (40 * d + k) from by rw [e40, nI_add]; exact nI_ge (by omega) (by omega))) (fun _ => ?_)
      refine Exists.intro _ (And.intro hM.1 (Exists.intro _ (And.intro (hM.2.2 19 (by decide)) ?_)))
      refine Exists.intro _ (Exists.intro _ (And.intro d19 (And.intro (vp_in_nI (by omega) (by decide)) ?_)))
      rw [nI_clamp (show 40 * d + k < 2 ^ 31 by omega), w1]
      have ew : nI (if dow D k < 6 then dow D k else dow D k + 4) = nI y ↔ dow D k = y := by
        rw [nI_eq (by split <;> omega) (by omega)]
        split <;> omega
      have eo : nI (dof D k) = (10 : Int32) + nI r ↔ dof D k = 10 + r := by
        rw [show (10 : Int32) = nI 10 from rfl, nI_add, nI_eq (by omega) (by omega)]
      by_cases c1 : dow D k = y
      · refine And.intro (fun cz => absurd (ew.mpr c1) cz) (fun _ => ?_)
        refine Exists.intro _ (And.intro hM.1 (Exists.intro _ (And.intro (hM.2.2 20 (by decide)) ?_)))
        refine Exists.intro _ (Exists.intro _ (And.intro d20 (And.intro (vp_in_nI (by omega) (by decide)) ?_)))
        rw [nI_clamp (show 40 * d + k < 2 ^ 31 by omega), q1]
        by_cases c2 : dof D k = 10 + r
        · refine And.intro (fun cz => absurd (eo.mpr c2) cz) (fun _ => ?_)
          exact And.intro rfl ((h1 ⟨k, hkK, c1, c2⟩))
        · refine And.intro (fun _ => ?_) (fun cz => absurd cz (fun z => c2 (eo.mp z)))
          exact next (fun z => c2 z.2) _ rfl rfl rfl rfl
      · refine And.intro (fun _ => ?_) (fun cz => absurd cz (fun z => c1 (ew.mp z)))
        exact next (fun z => c1 z.1) _ rfl rfl rfl rfl
  refine en_X12_isIn hX [8] 20 rfl ?_
  refine Exists.intro _ (And.intro hM.1 (Exists.intro _ (And.intro f19 ?_)))
  refine go_loc (lv' := [(3, .int ((40 : Int32) * nI d)), (0, .ref o), (1, .int (nI r)), (2, .int (nI y))]) ⟨rfl, rfl, rfl, rfl, trivial⟩ ?_
  rw [e40]
  exact loop (dK D) 0 (Nat.zero_add _) (fun j hj => absurd hj (Nat.not_lt_zero j))
def clP (D : DD) (ch r y : Nat) : Prop := r ≠ y ∧ ch.testBit r = true ∧ ch.testBit y = true ∧ ∃ k, k < dK D ∧ dow D k = y ∧ dof D k = 10 + r
theorem clP_c {D : DD} {ch : Nat} (hw : WD D) : hClash D ch = true ↔ ∃ r y, r < 6 ∧ y < 6 ∧ clP D ch r y := by
  have hr := hw.r
  unfold hClash
  rw [List.any_eq_true]
  constructor
  · rintro ⟨k, hk, hc⟩
    unfold clK at hc
    rw [Bool.and_eq_true, Bool.and_eq_true, Bool.and_eq_true, Bool.and_eq_true, decide_eq_true_eq, decide_eq_true_eq, decide_eq_true_eq] at hc
    obtain ⟨h1, h2, h3, h4, h5⟩ := hc
    have hkK := List.mem_range.mp hk
    have := (hw.c k hkK).2.2
    exact ⟨dof D k - 10, dow D k, by have := hw.i; omega, h2, h3, h4, h5, k, hkK, rfl, by omega⟩
  · rintro ⟨r, y, hr6, hy6, h1, h2, h3, k, hkK, h4, h5⟩
    refine ⟨k, List.mem_range.mpr hkK, ?_⟩
    unfold clK
    rw [h4, h5, Nat.add_sub_cancel_left, h2, h3, decide_eq_true h1, decide_eq_true hy6, decide_eq_true (by omega)]
    rfl
def chB (D : DD) (s : HWk) (r : Nat) : Bool := ((hSh D s).testBit r && !(hUp s).testBit r) || hLt D s r
theorem hCh_tb {D : DD} {s : HWk} (i : Nat) : (hCh D s).testBit i = (decide (i < 6) && chB D s i) := bsum_tb _ _ _
theorem chB_hi {D : DD} {s : HWk} (hs : WHs D s) {i : Nat} (h : dR D ≤ i) (h6 : i < 6) : chB D s i = false := by
  unfold chB hLt hDr
  rw [hSh_hi h h6, hUp_hi hs h]
  rfl
set_option maxHeartbeats 8000000 in
theorem m_round {l : Launch} {G : GG} {h : AH} {nx : Nat} {Post : Option Value → AH → Nat → Prop} {o d : Nat} {D : DD} {s : HWk} {fs : List Value} (hX : XC G ∧ TX l G) (hM : MA h o fs) (hS : SHm h o) (f19 : fs[19]? = some (.int (nI d))) (hD : MPg h o d D) (hw : WD D) (hH : MHw h o fs D s) (hs : WHs D s) (hP : ∀ (h1 : AH) (fs1 : List Value), MHd h o fs h1 fs1 → MHw h1 o fs1 D (hRnd D s) → Post (some (.int (nI (hCh D s)))) h1 nx) : Runs l G i_X12_round 0 0 [.ref o] h nx Post := by
  have hd := hD.2.2.2.2.2.2.2
  obtain ⟨⟨trk, gm, go, gn, gR, gL, gf, gt, gk, d8, d18, d20, d21, d10, d13, d23, d24, d27, hd5, pm, pK, pR, pR6, pL, pL5, po, _⟩, _, _, _, ⟨gS, d11, pS⟩, _⟩ := id hD
  have hr6 := hw.r
  have hup : hUp s < 64 := by have := hs.2.1; have := hw.pr; omega
  have h2048 := hSh_lt D s
  have hch64 : hCh D s < 64 := by have := hCh_lt hs; have := hw.pr; omega
  -- the clash
  have clash : ∀ (mr r : Nat), r + mr = 6 → ∀ (h2 : AH) (fs2 : List Value) (b : Bool), MHd h o fs h2 fs2 → MHw h2 o fs2 D ((hOn s, hUp s ^^^ hCh D s, b), hSt s, hAg s, hWn D s) → (b = true ↔ ∃ r' y, r' < r ∧ y < 6 ∧ clP D (hCh D s) r' y) → Go l G 12 s_X12_round 0 0 Post 189 [(3, .int (nI r)), (2, .int (nI (hCh D s))), (0, .ref o)] [] h2 nx 0 0 := by
    intro mr
    induction mr with
    | zero =>
      intro r hr h2 fs2 b R H2 hb
      have e : r = 6 := by omega
      subst e
      refine Go.of hX.2 ck_X12_round [189] 20 ?_
      refine And.intro (fun _ => ?_) (fun cz => by first | exact absurd cz (by decide) | exact absurd (by decide) cz)
      have eb : b = hClash D (hCh D s) := by
        rw [Bool.eq_iff_iff, hb, clP_c hw]
      rw [eb] at H2
      exact And.intro rfl ((hP h2 fs2 R H2))
    | succ mr ih =>
      intro r hr h2 fs2 b R H2 hb
      have hr6b : r < 6 := by omega
      have inner : ∀ (my y : Nat), y + my = 6 → ∀ (h3 : AH) (fs3 : List Value) (b : Bool), MHd h o fs h3 fs3 → MHw h3 o fs3 D ((hOn s, hUp s ^^^ hCh D s, b), hSt s, hAg s, hWn D s) → (b = true ↔ ∃ r' y', (r' < r ∨ (r' = r ∧ y' < y)) ∧ y' < 6 ∧ clP D (hCh D s) r' y') → Go l G 12 s_X12_round 0 0 Post 198 [(4, .int (nI y)), (3, .int (nI r)), (2, .int (nI (hCh D s))), (0, .ref o)] [] h3 nx 0 0 := by
        intro my
        induction my with
        | zero =>
          intro y hy h3 fs3 b R H3 hb
          have e : y = 6 := by omega
          subst e
          refine Go.of hX.2 ck_X12_round [189] 20 ?_
          refine And.intro (fun _ => ?_) (fun cz => by first | exact absurd cz (by decide) | exact absurd (by decide) cz)
          refine go_loc (lv' := [(3, .int (nI r + 1)), (2, .int (nI (hCh D s))), (0, .ref o)]) ⟨rfl, rfl, rfl, trivial⟩ ?_
          rw [← nI_succ]
          refine ih (r + 1) (by omega) h3 fs3 b R H3 (hb.trans ?_)
          constructor
          · rintro ⟨a, c, x1, x2, x3⟩; exact ⟨a, c, by omega, x2, x3⟩
          · rintro ⟨a, c, x1, x2, x3⟩; exact ⟨a, c, by omega, x2, x3⟩
        | succ my ihy =>
          intro y hy h3 fs3 b R H3 hb
          have hy6 : y < 6 := by omega
          have next : ∀ (h4 : AH) (fs4 : List Value) (b2 : Bool) (lv : LV), MHd h o fs h4 fs4 → MHw h4 o fs4 D ((hOn s, hUp s ^^^ hCh D s, b2), hSt s, hAg s, hWn D s) → (b2 = true ↔ (b = true ∨ clP D (hCh D s) r y)) → lk lv 4 = some (.int (nI y)) → lk lv 3 = some (.int (nI r)) → lk lv 2 = some (.int (nI (hCh D s))) → lk lv 0 = some (.ref o) → Go l G 12 s_X12_round 0 0 Post 245 lv [] h4 nx 0 0 := by
            intro h4 fs4 b2 lv R4 H4 hb2 l4 l3 l2 l0
            refine go_loc (lv' := [(4, .int (nI y)), (3, .int (nI r)), (2, .int (nI (hCh D s))), (0, .ref o)]) ⟨l4, l3, l2, l0, trivial⟩ ?_
            refine Go.of hX.2 ck_X12_round [198] 20 ?_
            refine go_loc (lv' := [(4, .int (nI y + 1)), (3, .int (nI r)), (2, .int (nI (hCh D s))), (0, .ref o)]) ⟨rfl, rfl, rfl, rfl, trivial⟩ ?_
            rw [← nI_succ]
            refine ihy (y + 1) (by omega) h4 fs4 b2 R4 H4 (hb2.trans ?_)
            rw [hb]
            constructor
            · rintro (⟨a, c, x1, x2, x3⟩ | x3)
              · exact ⟨a, c, by omega, x2, x3⟩
              · exact ⟨r, y, by omega, hy6, x3⟩
            · rintro ⟨a, c, x1, x2, x3⟩
              by_cases e : a = r ∧ c = y
              · right; rw [← e.1, ← e.2]; exact x3
              · left; exact ⟨a, c, by omega, x2, x3⟩
          have skip : ¬ clP D (hCh D s) r y → ∀ lv : LV, lk lv 4 = some (.int (nI y)) → lk lv 3 = some (.int (nI r)) → lk lv 2 = some (.int (nI (hCh D s))) → lk lv 0 = some (.ref o) → Go l G 12 s_X12_round 0 0 Post 245 lv [] h3 nx 0 0 := fun hno lv l4 l3 l2 l0 => next h3 fs3 b lv R H3 ⟨fun z => Or.inl z, fun z => z.resolve_right hno⟩ l4 l3 l2 l0
          have n1 := fun b1 => nx_tb1 (a := hCh D s) (k := r) (b := b1) (by omega) (by omega)
          have n2 := fun b1 => nx_tb1 (a := hCh D s) (k := y) (b := b1) (by omega) (by omega)
          refine Go.of hX.2 ck_X12_round [245] 80 ?_
          refine And.intro (fun cz => absurd cz (nI_ge (a := y) (b := 6) hy6 (by decide))) (fun _ => ?_)
          by_cases c0 : r = y
          · refine And.intro (fun _ => ?_) (fun cz => absurd (show nI r = nI y from by rw [c0]) cz)
            exact skip (fun z => z.1 c0) _ rfl rfl rfl rfl
          · refine And.intro (fun cz => absurd cz (fun z => c0 ((nI_eq (by omega) (by omega)).mp z))) (fun _ => ?_)
            cases c1 : (hCh D s).testBit r with
            | false =>
              refine And.intro (fun _ => ?_) (fun cz => absurd cz (show ¬ (nI (hCh D s) >>> (nI r &&& 31)) &&& 1 = 1 from by rw [n1 false c1]; decide))
              exact skip (fun z => absurd (z.2.1.symm.trans c1) (by decide)) _ rfl rfl rfl rfl
            | true =>
              refine And.intro (fun cz => absurd (show (nI (hCh D s) >>> (nI r &&& 31)) &&& 1 = 1 from by rw [n1 true c1]; decide) cz) (fun _ => ?_)
              cases c2 : (hCh D s).testBit y with
              | false =>
                refine And.intro (fun _ => ?_) (fun cz => absurd cz (show ¬ (nI (hCh D s) >>> (nI y &&& 31)) &&& 1 = 1 from by rw [n2 false c2]; decide))
                exact skip (fun z => absurd (z.2.2.1.symm.trans c2) (by decide)) _ rfl rfl rfl rfl
              | true =>
                refine And.intro (fun cz => absurd (show (nI (hCh D s) >>> (nI y &&& 31)) &&& 1 = 1 from by rw [n2 true c2]; decide) cz) (fun _ => ?_)
                have f19c := R.f (k := 19) rfl f19
                refine Exists.intro _ (And.intro R.1.1 (Exists.intro 0 (Exists.intro 0 (And.intro (Nat.le_refl _) (And.intro (Nat.le_refl _) (m_isIn hX R.1 f19c (R.pg hD) hw hr6b hy6 (fun hex => ?_) (fun hno => ?_) trivial))))))
                · have hlen := R.1.2.1
                  refine And.intro (fun cz => by first | exact absurd cz (by decide) | exact absurd (by decide) cz) (fun _ => ?_)
                  refine Exists.intro _ (And.intro R.1.1 (And.intro (by omega) (And.intro rfl (And.intro rfl ?_))))
                  have R4 := R.set (k := 55) (v := .int 1) (Or.inr (Or.inr rfl))
                  refine next _ _ true _ R4 ?_ ⟨fun _ => Or.inr ⟨c0, c1, c2, hex⟩, fun _ => rfl⟩ rfl rfl rfl rfl
                  obtain ⟨gs, ga, gd, a32, a33, a34, f50, f51, f55, p1, p2, p3⟩ := H3
                  exact ⟨gs, ga, gd, (uph_ne (by omega)).trans a32, (uph_ne (by omega)).trans a33, (uph_ne (by omega)).trans a34, (get_set_ne (by decide)).trans f50, (get_set_ne (by decide)).trans f51, by rw [List.getElem?_set_self (by omega)]; rfl, p1, p2, p3⟩
                · refine And.intro (fun _ => ?_) (fun cz => by first | exact absurd cz (by decide) | exact absurd (by decide) cz)
                  exact skip (fun z => hno z.2.2.2) _ rfl rfl rfl rfl
      refine Go.of hX.2 ck_X12_round [198] 20 ?_
      refine And.intro (fun cz => absurd cz (nI_ge (a := r) (b := 6) hr6b (by decide))) (fun _ => ?_)
      refine go_loc (lv' := [(4, .int (nI 0)), (3, .int (nI r)), (2, .int (nI (hCh D s))), (0, .ref o)]) ⟨rfl, rfl, rfl, rfl, trivial⟩ ?_
      refine inner 6 0 rfl h2 fs2 b R H2 (hb.trans ?_)
      constructor
      · rintro ⟨a, c, x1, x2, x3⟩; exact ⟨a, c, Or.inl x1, x2, x3⟩
      · rintro ⟨a, c, x1, x2, x3⟩; exact ⟨a, c, by omega, x2, x3⟩
  refine en_X12_round hX [19] 60 rfl ?_
  refine Exists.intro _ (And.intro hM.1 (Exists.intro _ (And.intro f19 ?_)))
  refine And.intro (fun _ => ?_) (fun cz => absurd cz ((nI_n2 (show d < 64 by omega)).2.2))
  refine Exists.intro _ (And.intro hM.1 (Exists.intro 0 (Exists.intro 0 (And.intro (Nat.le_refl _) (And.intro (Nat.le_refl _) (m_handShut hX hM hS f19 hD hw hH hs (fun h1 fs1 y1 => ?_)))))))
  have H1 := hH.hut y1
  obtain ⟨gs, ga, gd, a32, a33, a34, f50, f51, f55, p1, p2, p3⟩ := id H1
  have D1 := y1.pg hD
  have d10b := (y1.2.2.2 (o + 1 + 10) (by omega)).trans d10
  have d11b := (y1.2.2.2 (o + 1 + 11) (by omega)).trans d11
  have f19b := y1.f (k := 19) rfl f19
  have loop : ∀ (m r : Nat) (g : Nat → Int32) (c : Nat), r + m = dR D → (∀ j, j < dR D → g j = nI (if j < r then hWn D s j else hWt s j)) → c < 64 → (∀ i, c.testBit i = (decide (i < r) && chB D s i)) → Go l G 12 s_X12_round 0 0 Post 19 [(3, .int (nI r)), (2, .int (nI c)), (1, .int (nI (hSh D s))), (0, .ref o)] [] (uph h1 (o + 1 + 34) (.inl (0, 6, .inl g))) nx 0 0 := by
    intro m
    induction m with
    | zero =>
      intro r g c hr hg hc hcb
      have e : r = dR D := by omega
      subst e
      have ec : c = hCh D s := by
        refine Nat.eq_of_testBit_eq (fun i => ?_)
        rw [hcb, hCh_tb]
        by_cases z : i < dR D
        · rw [decide_eq_true z, decide_eq_true (show i < 6 by omega)]
        · rw [decide_eq_false z]
          by_cases z6 : i < 6
          · rw [chB_hi hs (by omega) z6, Bool.and_false, Bool.and_false]
          · rw [decide_eq_false z6]
      subst ec
      have R1 := y1.hd.row (j := 34) (e := .inl (0, 6, .inl g)) (by decide) (rowS_i (by decide) rfl ⟨g, rfl⟩)
      have hlen := R1.1.2.1
      have d10c : uph h1 (o + 1 + 34) (.inl (0, 6, .inl g)) (o + 1 + 10) = _ := (uph_ne (by omega)).trans d10b
      refine Go.of hX.2 ck_X12_round [189] 60 ?_
      refine Exists.intro _ (And.intro R1.1.1 (Exists.intro _ (And.intro (R1.1.2.2 10 (by decide)) ?_)))
      refine Exists.intro _ (And.intro R1.1.1 (Exists.intro _ (And.intro f19b ?_)))
      refine Exists.intro _ (Exists.intro _ (And.intro d10c (And.intro (vp_in_nI hd (by decide)) ?_)))
      rw [nI_clamp (show d < 2 ^ 31 by omega), pR]
      refine And.intro (fun _ => ?_) (fun cz => absurd (nI_le (Nat.le_refl _) (by omega)) cz)
      refine Exists.intro _ (And.intro R1.1.1 (Exists.intro _ (And.intro f51 ?_)))
      refine Exists.intro _ (And.intro R1.1.1 (And.intro (by omega) (And.intro rfl (And.intro rfl ?_))))
      have R2 := R1.set (k := 51) (v := .int (nI (hUp s) ^^^ nI (hCh D s))) (Or.inr (Or.inl rfl))
      refine Exists.intro _ (And.intro R2.1.1 (And.intro (by rw [List.length_set]; omega) (And.intro rfl (And.intro rfl ?_))))
      have R3 := R2.set (k := 55) (v := .int 0) (Or.inr (Or.inr rfl))
      refine go_loc (lv' := [(3, .int (nI 0)), (2, .int (nI (hCh D s))), (0, .ref o)]) ⟨rfl, rfl, rfl, trivial⟩ ?_
      refine clash 6 0 rfl _ _ false R3 ?_ ⟨fun z => absurd z (by decide), fun ⟨a, c, x1, _⟩ => absurd x1 (Nat.not_lt_zero _)⟩
      refine ⟨gs, ga, g, ?_, ?_, ?_, ?_, ?_, ?_, p1, p2, fun r hr2 => by rw [hg r hr2, if_pos hr2]; rfl⟩
      · rw [uph_ne (by omega), uph_ne (by omega), uph_ne (by omega)]; exact a32
      · rw [uph_ne (by omega), uph_ne (by omega), uph_ne (by omega)]; exact a33
      · rw [uph_ne (by omega), uph_ne (by omega)]; exact uph_eq
      · rw [get_set_ne (by decide), get_set_ne (by decide)]; exact f50
      · rw [get_set_ne (by decide), List.getElem?_set_self (by omega), nx_xor]; rfl
      · rw [List.getElem?_set_self (by rw [List.length_set]; omega)]; rfl
    | succ m ih =>
      intro r g c hr hg hc hcb
      have hrR : r < dR D := by omega
      have R1 := y1.hd.row (j := 34) (e := .inl (0, 6, .inl g)) (by decide) (rowS_i (by decide) rfl ⟨g, rfl⟩)
      have d10c : uph h1 (o + 1 + 34) (.inl (0, 6, .inl g)) (o + 1 + 10) = _ := (uph_ne (by omega)).trans d10b
      have d11c : uph h1 (o + 1 + 34) (.inl (0, 6, .inl g)) (o + 1 + 11) = _ := (uph_ne (by omega)).trans d11b
      have a33c : uph h1 (o + 1 + 34) (.inl (0, 6, .inl g)) (o + 1 + 33) = _ := (uph_ne (by omega)).trans a33
      have hgr : g r = nI (hWt s r) := by rw [hg r hrR, if_neg (Nat.lt_irrefl r)]
      have hsl := hw.s r hrR
      have hag := hs.2.2.2.1 r
      have hwt := hs.2.2.2.2 r
      have cbr : c.testBit r = false := by rw [hcb, decide_eq_false (Nat.lt_irrefl r)]; rfl
      -- the end of a relay's turn
      have fin : ∀ (v : Int32) (c2 : Nat) (lv : LV), v = nI (hWn D s r) → c2 = (if chB D s r = true then c ||| 2 ^ r else c) → lk lv 3 = some (.int (nI r + 1)) → lk lv 2 = some (.int (nI c2)) → lk lv 1 = some (.int (nI (hSh D s))) → lk lv 0 = some (.ref o) → Go l G 12 s_X12_round 0 0 Post 19 lv [] (uph h1 (o + 1 + 34) (.inl (0, 6, .inl (upd g r v)))) nx 0 0 := by
        intro v c2 lv hv hc2 l3 l2 l1 l0
        refine go_loc (lv' := [(3, .int (nI r + 1)), (2, .int (nI c2)), (1, .int (nI (hSh D s))), (0, .ref o)]) ⟨l3, l2, l1, l0, trivial⟩ ?_
        rw [← nI_succ]
        refine ih (r + 1) _ c2 (by omega) (fun j hj => ?_) ?_ (fun i => ?_)
        · by_cases e : j = r
          · rw [e, pk_us, if_pos (Nat.lt_succ_self r), hv]
          · rw [pk_un e, hg j hj]
            by_cases e2 : j < r
            · rw [if_pos e2, if_pos (by omega)]
            · rw [if_neg e2, if_neg (by omega)]
        · rw [hc2]
          split
          · exact Nat.or_lt_two_pow (n := 6) hc (Nat.pow_lt_pow_right (by decide) (by omega))
          · exact hc
        · rw [hc2]
          have hci := hcb i
          by_cases e : i = r
          · subst e
            rw [decide_eq_true (Nat.lt_succ_self i), Bool.true_and]
            cases hl : chB D s i with
            | false => rw [if_neg (by decide), cbr]
            | true => rw [if_pos rfl, Nat.testBit_or, Nat.testBit_two_pow_self, Bool.or_true]
          · have ed : decide (i < r + 1) = decide (i < r) := by
              by_cases e2 : i < r
              · rw [decide_eq_true e2, decide_eq_true (by omega)]
              · rw [decide_eq_false e2, decide_eq_false (by omega)]
            rw [ed, ← hci]
            split
            · rw [Nat.testBit_or, Nat.testBit_two_pow_of_ne (Ne.symm e), Bool.or_false]
            · rfl
      have at135 : ∀ (b6 : Bool) (c2 : Nat) (lv : LV), c2 < 64 → c2 = (if chB D s r = true then c ||| 2 ^ r else c) → (hWn D s r = if (b6 && !c2.testBit r) = true then hWt s r + 1 else 0) → lk lv 6 = some (.int (nI b6.toNat)) → lk lv 3 = some (.int (nI r)) → lk lv 2 = some (.int (nI c2)) → lk lv 1 = some (.int (nI (hSh D s))) → lk lv 0 = some (.ref o) → Go l G 12 s_X12_round 0 0 Post 135 lv [] (uph h1 (o + 1 + 34) (.inl (0, 6, .inl g))) nx 0 0 := by
        intro b6 c2 lv hc64 hc2 hwn l6 l3 l2 l1 l0
        refine go_loc (lv' := [(6, .int (nI b6.toNat)), (3, .int (nI r)), (2, .int (nI c2)), (1, .int (nI (hSh D s))), (0, .ref o)]) ⟨l6, l3, l2, l1, l0, trivial⟩ ?_
        have n1 := fun b1 => nx_tb1 (a := c2) (k := r) (b := b1) (by omega) (by omega)
        refine Go.of hX.2 ck_X12_round [19] 60 ?_
        refine Exists.intro _ (And.intro R1.1.1 (Exists.intro _ (And.intro (R1.1.2.2 34 (by decide)) ?_)))
        cases b6 with
        | false =>
          refine And.intro (fun _ => ?_) (fun cz => by first | exact absurd cz (by decide) | exact absurd (by decide) cz)
          refine Exists.intro _ (Exists.intro _ (And.intro uph_eq (And.intro (vp_in_nI (by omega) (by decide)) ?_)))
          rw [uph_uph, nI_clamp (show r < 2 ^ 31 by omega)]
          exact fin 0 c2 _ (by rw [hwn]; rfl) hc2 rfl rfl rfl rfl
        | true =>
          refine And.intro (fun cz => by first | exact absurd cz (by decide) | exact absurd (by decide) cz) (fun _ => ?_)
          cases cb : c2.testBit r with
          | true =>
            refine And.intro (fun _ => ?_) (fun cz => absurd cz (show ¬ (nI c2 >>> (nI r &&& 31)) &&& 1 = 0 from by rw [n1 true cb]; decide))
            refine Exists.intro _ (Exists.intro _ (And.intro uph_eq (And.intro (vp_in_nI (by omega) (by decide)) ?_)))
            rw [uph_uph, nI_clamp (show r < 2 ^ 31 by omega)]
            exact fin 0 c2 _ (by rw [hwn, cb]; rfl) hc2 rfl rfl rfl rfl
          | false =>
            refine And.intro (fun cz => absurd (show (nI c2 >>> (nI r &&& 31)) &&& 1 = 0 from by rw [n1 false cb]; decide) cz) (fun _ => ?_)
            refine Exists.intro _ (And.intro R1.1.1 (Exists.intro _ (And.intro (R1.1.2.2 34 (by decide)) ?_)))
            refine Exists.intro _ (Exists.intro _ (And.intro uph_eq (And.intro (vp_in_nI (by omega) (by decide)) ?_)))
            rw [nI_clamp (show r < 2 ^ 31 by omega), hgr]
            refine Exists.intro _ (Exists.intro _ (And.intro uph_eq (And.intro (vp_in_nI (by omega) (by decide)) ?_)))
            rw [uph_uph, nI_clamp (show r < 2 ^ 31 by omega)]
            exact fin (nI (hWt s r) + 1) c2 _ (by rw [hwn, cb, ← nI_succ]; rfl) hc2 rfl rfl rfl rfl
      have at129 : chB D s r = true → ∀ (b6 : Bool) (lv : LV), hWn D s r = 0 → lk lv 6 = some (.int (nI b6.toNat)) → lk lv 3 = some (.int (nI r)) → lk lv 2 = some (.int (nI c)) → lk lv 1 = some (.int (nI (hSh D s))) → lk lv 0 = some (.ref o) → Go l G 12 s_X12_round 0 0 Post 129 lv [] (uph h1 (o + 1 + 34) (.inl (0, 6, .inl g))) nx 0 0 := by
        intro hcb2 b6 lv hwn l6 l3 l2 l1 l0
        refine go_loc (lv' := [(6, .int (nI b6.toNat)), (3, .int (nI r)), (2, .int (nI c)), (1, .int (nI (hSh D s))), (0, .ref o)]) ⟨l6, l3, l2, l1, l0, trivial⟩ ?_
        refine Go.of hX.2 ck_X12_round [135] 60 ?_
        have e9 : nI c ||| ((1 : Int32) <<< (nI r &&& 31)) = nI (c ||| 2 ^ r) := by rw [nx_pow (by omega), nx_or]
        refine go_loc (lv' := [(6, .int (nI b6.toNat)), (3, .int (nI r)), (2, .int (nI c ||| ((1 : Int32) <<< (nI r &&& 31)))), (1, .int (nI (hSh D s))), (0, .ref o)]) ⟨rfl, rfl, rfl, rfl, rfl, trivial⟩ ?_
        rw [e9]
        refine at135 b6 (c ||| 2 ^ r) _ (Nat.or_lt_two_pow (n := 6) hc (Nat.pow_lt_pow_right (by decide) (by omega))) (by rw [if_pos hcb2]) ?_ rfl rfl rfl rfl rfl
        rw [hwn, Nat.testBit_or, Nat.testBit_two_pow_self, Bool.or_true, Bool.not_true, Bool.and_false]
        rfl
      have n1 := fun b1 => nx_tb1 (a := hUp s) (k := r) (b := b1) (by omega) (by omega)
      have n2 := fun b1 => nx_tb1 (a := hSh D s) (k := r) (b := b1) (by omega) (by omega)
      refine Go.of hX.2 ck_X12_round [129, 135] 120 ?_
      refine Exists.intro _ (And.intro R1.1.1 (Exists.intro _ (And.intro (R1.1.2.2 10 (by decide)) ?_)))
      refine Exists.intro _ (And.intro R1.1.1 (Exists.intro _ (And.intro f19b ?_)))
      refine Exists.intro _ (Exists.intro _ (And.intro d10c (And.intro (vp_in_nI hd (by decide)) ?_)))
      rw [nI_clamp (show d < 2 ^ 31 by omega), pR]
      refine And.intro (fun cz => absurd cz (nI_ge hrR (by omega))) (fun _ => ?_)
      refine Exists.intro _ (And.intro R1.1.1 (Exists.intro _ (And.intro f51 ?_)))
      cases cu : (hUp s).testBit r with
      | false =>
        have hdr : hDr D s r = false := by unfold hDr; rw [cu]; rfl
        have hwn : hWn D s r = 0 := by unfold hWn; rw [hdr]; rfl
        refine And.intro (fun _ => ?_) (fun cz => absurd cz (show ¬ (nI (hUp s) >>> (nI r &&& 31)) &&& 1 = 1 from by rw [n1 false cu]; decide))
        cases ci : (hSh D s).testBit r with
        | false =>
          refine And.intro (fun _ => ?_) (fun cz => absurd cz (show ¬ (nI (hSh D s) >>> (nI r &&& 31)) &&& 1 = 1 from by rw [n2 false ci]; decide))
          refine And.intro (fun _ => ?_) (fun cz => by first | exact absurd cz (by decide) | exact absurd (by decide) cz)
          refine And.intro (fun cz => by first | exact absurd cz (by decide) | exact absurd (by decide) cz) (fun _ => ?_)
          refine And.intro (fun cz => by first | exact absurd cz (by decide) | exact absurd (by decide) cz) (fun _ => ?_)
          refine And.intro (fun _ => ?_) (fun cz => by first | exact absurd cz (by decide) | exact absurd (by decide) cz)
          exact at135 false c _ hc (by unfold chB hLt; rw [ci, hdr]; rfl) (by rw [hwn]; rfl) rfl rfl rfl rfl rfl
        | true =>
          refine And.intro (fun cz => absurd (show (nI (hSh D s) >>> (nI r &&& 31)) &&& 1 = 1 from by rw [n2 true ci]; decide) cz) (fun _ => ?_)
          refine And.intro (fun _ => ?_) (fun cz => by first | exact absurd cz (by decide) | exact absurd (by decide) cz)
          refine And.intro (fun cz => by first | exact absurd cz (by decide) | exact absurd (by decide) cz) (fun _ => ?_)
          refine And.intro (fun _ => ?_) (fun cz => by first | exact absurd cz (by decide) | exact absurd (by decide) cz)
          exact at129 (by unfold chB; rw [ci, cu]; rfl) false _ hwn rfl rfl rfl rfl rfl
      | true =>
        refine And.intro (fun cz => absurd (show (nI (hUp s) >>> (nI r &&& 31)) &&& 1 = 1 from by rw [n1 true cu]; decide) cz) (fun _ => ?_)
        cases ci : (hSh D s).testBit r with
        | true =>
          have hdr : hDr D s r = false := by unfold hDr; rw [cu, ci]; rfl
          have hwn : hWn D s r = 0 := by unfold hWn; rw [hdr]; rfl
          refine And.intro (fun cz => absurd (show (nI (hSh D s) >>> (nI r &&& 31)) &&& 1 = 1 from by rw [n2 true ci]; decide) cz) (fun _ => ?_)
          refine And.intro (fun cz => by first | exact absurd cz (by decide) | exact absurd (by decide) cz) (fun _ => ?_)
          refine And.intro (fun _ => ?_) (fun cz => by first | exact absurd cz (by decide) | exact absurd (by decide) cz)
          refine And.intro (fun _ => ?_) (fun cz => by first | exact absurd cz (by decide) | exact absurd (by decide) cz)
          refine And.intro (fun _ => ?_) (fun cz => by first | exact absurd cz (by decide) | exact absurd (by decide) cz)
          exact at135 false c _ hc (by unfold chB hLt; rw [ci, cu, hdr]; rfl) (by rw [hwn]; rfl) rfl rfl rfl rfl rfl
        | false =>
          have hdr : hDr D s r = true := by unfold hDr; rw [cu, ci]; rfl
          refine And.intro (fun _ => ?_) (fun cz => absurd cz (show ¬ (nI (hSh D s) >>> (nI r &&& 31)) &&& 1 = 1 from by rw [n2 false ci]; decide))
          refine And.intro (fun cz => by first | exact absurd cz (by decide) | exact absurd (by decide) cz) (fun _ => ?_)
          refine And.intro (fun cz => by first | exact absurd cz (by decide) | exact absurd (by decide) cz) (fun _ => ?_)
          refine And.intro (fun _ => ?_) (fun cz => by first | exact absurd cz (by decide) | exact absurd (by decide) cz)
          refine And.intro (fun cz => by first | exact absurd cz (by decide) | exact absurd (by decide) cz) (fun _ => ?_)
          refine Exists.intro _ (And.intro R1.1.1 (Exists.intro _ (And.intro (R1.1.2.2 34 (by decide)) ?_)))
          refine Exists.intro _ (Exists.intro _ (And.intro uph_eq (And.intro (vp_in_nI (by omega) (by decide)) ?_)))
          rw [nI_clamp (show r < 2 ^ 31 by omega), hgr]
          refine Exists.intro _ (And.intro R1.1.1 (Exists.intro _ (And.intro (R1.1.2.2 11 (by decide)) ?_)))
          refine Exists.intro _ (And.intro R1.1.1 (Exists.intro _ (And.intro f19b ?_)))
          have e6 : (6 : Int32) * nI d + nI r = nI (6 * d + r) := by rw [show (6 : Int32) = nI 6 from rfl, nI_mul, nI_add]
          refine Exists.intro _ (Exists.intro _ (And.intro d11c (And.intro (by rw [e6]; exact vp_in_nI (by omega) (by decide)) ?_)))
          rw [e6, nI_clamp (show 6 * d + r < 2 ^ 31 by omega), pS r hrR]
          refine Exists.intro _ (And.intro R1.1.1 (Exists.intro _ (And.intro (R1.1.2.2 33 (by decide)) ?_)))
          refine Exists.intro _ (Exists.intro _ (And.intro a33c (And.intro (vp_in_nI (show r < 6 by omega) (by decide)) ?_)))
          rw [nI_clamp (show r < 2 ^ 31 by omega), p2 r (by omega)]
          have ea : nI (dsl D r) + nI (hAg s r) = nI (dsl D r + hAg s r) := nI_add _ _
          by_cases cl : dsl D r + hAg s r ≤ hWt s r
          · have hlt : hLt D s r = true := by unfold hLt; rw [hdr, decide_eq_true cl]; rfl
            refine And.intro (fun cz => absurd cz (show ¬ nI (hWt s r) < nI (dsl D r) + nI (hAg s r) from by rw [ea]; exact nI_nlt cl (by omega))) (fun _ => ?_)
            exact at129 (by unfold chB; rw [hlt, Bool.or_true]) true _ (by unfold hWn; rw [hlt, hdr]; rfl) rfl rfl rfl rfl rfl
          · have hlt : hLt D s r = false := by unfold hLt; rw [hdr, decide_eq_false cl]; rfl
            refine And.intro (fun _ => ?_) (fun cz => absurd (show nI (hWt s r) < nI (dsl D r) + nI (hAg s r) from by rw [ea]; exact nI_lt (by omega) (by omega)) cz)
            exact at135 true c _ hc (by unfold chB; rw [hlt, ci]; rfl) (by unfold hWn; rw [hdr, hlt, cbr]) rfl rfl rfl rfl rfl
  rw [← uph_self a34]
  refine go_loc (lv' := [(3, .int (nI 0)), (2, .int (nI 0)), (1, .int (nI (hSh D s))), (0, .ref o)]) ⟨rfl, rfl, rfl, rfl, trivial⟩ ?_
  exact loop (dR D) 0 gd 0 (Nat.zero_add _) (fun j hj => by rw [if_neg (Nat.not_lt_zero _)]; exact p3 j hj) (by decide) (fun i => by rw [Nat.zero_testBit, decide_eq_false (Nat.not_lt_zero _)]; rfl)
theorem nv_green {lp : Nat → Nat} {gr : Nat → Bool} {P : Nat → Bool} {nL : Nat} : ∀ {n : Nat}, (∀ k, k < n → lp k < nL ∧ gr (lp k) = true) → ∀ i, (nvF lp P n).testBit i = true → i < nL ∧ gr i = true
  | 0, _, i, h => by rw [show nvF lp P 0 = 0 from rfl, Nat.zero_testBit] at h; cases h
  | n + 1, hk, i, h => by
    rw [show nvF lp P (n + 1) = nvF lp P n ||| (if P n = true then 2 ^ lp n else 0) from rfl, Nat.testBit_or, Bool.or_eq_true] at h
    rcases h with h | h
    · exact nv_green (fun k hk2 => hk k (by omega)) i h
    · split at h
      · by_cases e : lp n = i
        · rw [← e]; exact hk n (by omega)
        · rw [Nat.testBit_two_pow_of_ne e] at h; cases h
      · rw [Nat.zero_testBit] at h; cases h
theorem nv_and {D : DD} (hw : WD D) (x on up : Nat) : (x &&& bsum (dgr D) (dL D)) &&& nvF (dlp D) (fun k => dNV D k on up) (dV D) = x &&& nvF (dlp D) (fun k => dNV D k on up) (dV D) := by
  refine Nat.eq_of_testBit_eq (fun i => ?_)
  rw [Nat.testBit_and, Nat.testBit_and, Nat.testBit_and, bsum_tb]
  cases hc : (nvF (dlp D) (fun k => dNV D k on up) (dV D)).testBit i with
  | false => rw [Bool.and_false, Bool.and_false]
  | true =>
    obtain ⟨z1, z2⟩ := nv_green (nL := dL D) (gr := dgr D) (fun k hk => hw.n k hk) i hc
    rw [decide_eq_true z1, z2, Bool.and_true, Bool.true_and, Bool.and_true]
set_option maxHeartbeats 8000000 in
theorem m_hand {l : Launch} {G : GG} {h : AH} {nx : Nat} {Post : Option Value → AH → Nat → Prop} {o d : Nat} {what : Int32} {D : DD} {s : HWk} {fs : List Value} (hX : XC G ∧ TX l G) (hM : MA h o fs) (hS : SHm h o) (f19 : fs[19]? = some (.int (nI d))) (hD : MPg h o d D) (hw : WD D) (hH : MHw h o fs D s) (hs : WHs D s) (hP : ∀ (h1 : AH) (fs1 : List Value), MH h o fs h1 fs1 → Post (some (.int (hTell D s what))) h1 nx) : Runs l G i_X12_hand 0 0 [.ref o, .int what] h nx Post := by
  have hd := hD.2.2.2.2.2.2.2
  have h2048 := hSh_lt D s
  have hi := hw.i
  have hr := hw.r
  have hpi := hw.pi
  have hpr := hw.pr
  have hon := hs.1
  have hup := hs.2.1
  have hl := hw.l
  obtain ⟨gs, ga, gd, a32, a33, a34, f50, f51, f55, p1, p2, p3⟩ := id hH
  refine en_X12_hand hX [66] 60 rfl ?_
  refine Exists.intro _ (And.intro hM.1 (Exists.intro _ (And.intro f19 ?_)))
  refine And.intro (fun _ => ?_) (fun cz => absurd cz ((nI_n2 (show d < 64 by omega)).2.2))
  refine And.intro (fun hdd => ?_) (And.intro (fun h0 => ?_) (And.intro (fun h0 => ?_) (And.intro (fun h0 => ?_) (And.intro (fun h0 => ?_) (And.intro (fun h0 => ?_) trivial)))))
  · have hP2 : Post (some (.int (-1))) h nx := by
      have hP := hP h fs (MH.rf hM hS)
      unfold hTell at hP
      rw [if_neg (fun e => by rw [e] at hdd; exact absurd hdd (by decide)), if_neg (fun e => by rw [e] at hdd; exact absurd hdd (by decide)), if_neg (fun e => by rw [e] at hdd; exact absurd hdd (by decide)), if_neg (fun e => by rw [e] at hdd; exact absurd hdd (by decide)), if_neg (fun e => by rw [e] at hdd; exact absurd hdd (by decide))] at hP
      exact hP
    exact And.intro rfl (hP2)
  · have e : what = 0 := h0.trans (by decide)
    subst e
    refine Exists.intro _ (And.intro hM.1 (Exists.intro _ (And.intro f50 ?_)))
    exact And.intro rfl (show Post (some (.int (nI (hOn s)))) h nx from hP h fs (MH.rf hM hS))
  · have e : what = 1 := h0.trans (by decide)
    subst e
    refine Exists.intro _ (And.intro hM.1 (Exists.intro _ (And.intro f51 ?_)))
    exact And.intro rfl (show Post (some (.int (nI (hUp s)))) h nx from hP h fs (MH.rf hM hS))
  · have e : what = 2 := h0.trans (by decide)
    subst e
    refine Exists.intro _ (And.intro hM.1 (Exists.intro 0 (Exists.intro 0 (And.intro (Nat.le_refl _) (And.intro (Nat.le_refl _) (m_handShut hX hM hS f19 hD hw hH hs (fun h1 fs1 y => ?_)))))))
    refine And.intro rfl ?_
    show Post (some (.int (nI (hSh D s) >>> ((6 : Int32) &&& 31)))) h1 nx
    rw [sh6 h2048]
    exact hP h1 fs1 y
  · have e : what = 3 := h0.trans (by decide)
    subst e
    have hP2 : Post (some (.int (nI (pqN (hSt s) 40)))) h nx := hP h fs (MH.rf hM hS)
    have loop : ∀ (m k : Nat), k + m = 40 → Go l G 12 s_X12_hand 0 0 Post 66 [(3, .int (nI k)), (2, .int (nI (pqN (hSt s) k))), (0, .ref o)] [] h nx 0 0 := by
      intro m
      induction m with
      | zero =>
        intro k hk
        have e : k = 40 := by omega
        subst e
        refine Go.of hX.2 ck_X12_hand [66] 20 ?_
        refine And.intro (fun _ => ?_) (fun cz => by first | exact absurd cz (by decide) | exact absurd (by decide) cz)
        exact And.intro rfl (hP2)
      | succ m ih =>
        intro k hk
        have ih2 := ih (k + 1) (by omega)
        rw [show pqN (hSt s) (k + 1) = pqN (hSt s) k + (hSt s k).toNat from rfl, nI_succ, ← nI_add] at ih2
        refine Go.of hX.2 ck_X12_hand [66] 30 ?_
        refine And.intro (fun cz => absurd cz (nI_ge (a := k) (b := 40) (by omega) (by decide))) (fun _ => ?_)
        refine Exists.intro _ (And.intro hM.1 (Exists.intro _ (And.intro (hM.2.2 32 (by decide)) ?_)))
        refine Exists.intro 3 (Exists.intro _ (Exists.intro _ (And.intro a32 (And.intro (Or.inr rfl) (And.intro (vp_in_nI (by omega) (by decide)) ?_)))))
        rw [nI_clamp (show k < 2 ^ 31 by omega), p1 k (by omega)]
        cases cs : hSt s k with
        | false =>
          rw [cs] at ih2
          refine And.intro (fun _ => ?_) (fun cz => by first | exact absurd cz (by decide) | exact absurd (by decide) cz)
          exact go_loc (lv' := [(3, .int (nI k + 1)), (2, .int (nI (pqN (hSt s) k) + 0)), (0, .ref o)]) ⟨rfl, rfl, rfl, trivial⟩ (ih2)
        | true =>
          rw [cs] at ih2
          refine And.intro (fun cz => by first | exact absurd cz (by decide) | exact absurd (by decide) cz) (fun _ => ?_)
          exact go_loc (lv' := [(3, .int (nI k + 1)), (2, .int (nI (pqN (hSt s) k) + 1)), (0, .ref o)]) ⟨rfl, rfl, rfl, trivial⟩ (ih2)
    exact go_loc (lv' := [(3, .int (nI 0)), (2, .int (nI 0)), (0, .ref o)]) ⟨rfl, rfl, rfl, trivial⟩ (loop 40 0 (Nat.zero_add _))
  · have e : what = 4 := h0.trans (by decide)
    subst e
    have h32 := nv_lt32 (D := D) hw (on := hOn s) (up := hUp s)
    refine Exists.intro _ (And.intro hM.1 (Exists.intro 0 (Exists.intro 0 (And.intro (Nat.le_refl _) (And.intro (Nat.le_refl _) (m_handShut hX hM hS f19 hD hw hH hs (fun h1 fs1 y => ?_)))))))
    have D1 := y.pg hD
    obtain ⟨⟨trk, gm, go, gn, gR, gL, gf, gt, gk, d8, d18, d20, d21, d10, d13, d23, d24, d27, hd5, pm, pK, pR, pR6, pL, pL5, po, _⟩, _, dn, _, _, ⟨gG, d14, pG⟩, _⟩ := id D1
    have f19b := y.f (k := 19) rfl f19
    have H1 := hH.hut y
    obtain ⟨_, _, _, _, _, _, f50b, f51b, _⟩ := H1
    refine Exists.intro _ (And.intro y.1.1 (Exists.intro _ (And.intro f19b ?_)))
    refine Exists.intro _ (And.intro y.1.1 (Exists.intro 0 (Exists.intro 0 (And.intro (Nat.le_refl _) (And.intro (Nat.le_refl _) (c_greens hX y.1 hd d13 d14 pL hl pG ?_))))))
    refine Exists.intro _ (And.intro y.1.1 (Exists.intro _ (And.intro f19b ?_)))
    refine Exists.intro _ (And.intro y.1.1 (Exists.intro _ (And.intro f50b ?_)))
    refine Exists.intro _ (And.intro y.1.1 (Exists.intro _ (And.intro f51b ?_)))
    obtain ⟨g36, e36⟩ := y.2.1.i 36 (by decide) (by decide) (t := 3) (n := 420) rfl
    refine Exists.intro _ (And.intro y.1.1 (Exists.intro 0 (Exists.intro 0 (And.intro (Nat.le_refl _) (And.intro (Nat.le_refl _) (c_neverNow hX y.1 dn e36 (by omega) (by omega) (fun h2 y2 => ?_)))))))
    have hP := hP h2 fs1 (y.pl y2)
    have hP2 : Post (some (.int (if (hSh D s >>> 6) &&& nvF (dlp D) (fun k => dNV D k (hOn s) (hUp s)) (dV D) = 0 then 0 else 1))) h2 nx := hP
    have tz := and_0 (a := (hSh D s >>> 6) &&& bsum (dgr D) (dL D)) (b := nvF (dlp D) (fun k => dNV D k (hOn s) (hUp s)) (dV D)) h32
    rw [nv_and hw, ← nx_and, ← sh6 h2048] at tz
    by_cases c : (hSh D s >>> 6) &&& nvF (dlp D) (fun k => dNV D k (hOn s) (hUp s)) (dV D) = 0
    · rw [if_pos c] at hP2
      refine And.intro (fun _ => ?_) (fun cz => absurd (tz.mpr c) cz)
      exact And.intro rfl (hP2)
    · rw [if_neg c] at hP2
      refine And.intro (fun cz => absurd cz (fun z => c (tz.mp z))) (fun _ => ?_)
      exact And.intro rfl (hP2)
