/-! rounds by hand, the model: a round -/
theorem nx_tb1 {a k : Nat} {b : Bool} (ha : a < 2 ^ 31) (hk : k < 32) (hb : a.testBit k = b) : (nI a >>> (nI k &&& 31)) &&& 1 = nI b.toNat := by rw [nx_tb ha hk, hb]
set_option maxHeartbeats 8000000 in
theorem m_isIn {l : Launch} {G : GG} {h : AH} {nx : Nat} {Post : Option Value → AH → Nat → Prop} {o d r y : Nat} {D : DD} {fs : List Value} (hX : XC G ∧ TX l G) (hM : MA h o fs) (f19 : fs[19]? = some (.int (nI d))) (hD : MPg h o d D) (hw : WD D) (hr : r < 6) (hy : y < 6) (h1 : (∃ k, k < dK D ∧ dow D k = y ∧ dof D k = 10 + r) → Post (some (.int 1)) h nx) (h0 : (¬ ∃ k, k < dK D ∧ dow D k = y ∧ dof D k = 10 + r) → Post (some (.int 0)) h nx) (hP : True) : Runs l G i_X12_isIn 0 0 [.ref o, .int (nI r), .int (nI y)] h nx Post := by
  have hd := hD.2.2.2.2.2.2.2
  obtain ⟨⟨trk, gm, go, gn, gR, gL, gf, gt, gk, d8, d18, d20, d21, d10, d13, d23, d24, d27, hd5, pm, pK, pR, pR6, pL, pL5, po, _⟩, ⟨gw, d19, pw⟩, _⟩ := id hD
  have hk := hw.k
  have e40 : (40 : Int32) * nI d = nI (40 * d) := by rw [show (40 : Int32) = nI 40 from rfl, nI_mul]
  have loop : ∀ (m k : Nat), k + m = dK D → (∀ j, j < k → ¬ (dow D j = y ∧ dof D j = 10 + r)) → Go l G 12 s_X12_isIn 0 0 Post 8 [(3, .int (nI (40 * d + k))), (0, .ref o), (1, .int (nI r)), (2, .int (nI y))] [] h nx 0 0 := by
    intro m
    induction m with
    | zero =>
      intro k hk2 hno
      have e : k = dK D := by omega
      subst e
      refine Go.of hX.2 ck_X12_isIn [8] 40 ?_
      refine Exists.intro _ (And.intro hM.1 (Exists.intro _ (And.intro f19 ?_)))
      refine Exists.intro _ (And.intro hM.1 (Exists.intro _ (And.intro (hM.2.2 18 (by decide)) ?_)))
      refine Exists.intro _ (And.intro hM.1 (Exists.intro _ (And.intro f19 ?_)))
      refine Exists.intro _ (Exists.intro _ (And.intro d18 (And.intro (vp_in_nI hd (by decide)) ?_)))
      rw [nI_clamp (show d < 2 ^ 31 by omega), pm]
      refine And.intro (fun _ => ?_) (fun cz => absurd (show (40 : Int32) * nI d + nI (dK D) ≤ nI (40 * d + dK D) from by rw [e40, nI_add]; exact Int32.le_refl _) cz)
      exact And.intro rfl ((h0 (fun ⟨j, j1, j2⟩ => hno j j1 j2)))
    | succ m ih =>
      intro k hk2 hno
      have hkK : k < dK D := by omega
      obtain ⟨q1, q2, q3⟩ := po k hkK
      obtain ⟨w1, w2⟩ := pw k hkK
      have next : ¬ (dow D k = y ∧ dof D k = 10 + r) → ∀ (lv : LV), lk lv 3 = some (.int (nI (40 * d + k))) → lk lv 0 = some (.ref o) → lk lv 1 = some (.int (nI r)) → lk lv 2 = some (.int (nI y)) → Go l G 12 s_X12_isIn 0 0 Post 54 lv [] h nx 0 0 := by
        intro hf lv l3 l0 l1 l2
        refine go_loc (lv' := [(3, .int (nI (40 * d + k))), (0, .ref o), (1, .int (nI r)), (2, .int (nI y))]) ⟨l3, l0, l1, l2, trivial⟩ ?_
        refine Go.of hX.2 ck_X12_isIn [8] 20 ?_
        refine go_loc (lv' := [(3, .int (nI (40 * d + k) + 1)), (0, .ref o), (1, .int (nI r)), (2, .int (nI y))]) ⟨rfl, rfl, rfl, rfl, trivial⟩ ?_
        rw [← nI_succ]
        exact ih (k + 1) (by omega) (fun j hj => by
          by_cases e : j = k
          · rw [e]; exact hf
          · exact hno j (by omega))
      refine Go.of hX.2 ck_X12_isIn [54] 60 ?_
      refine Exists.intro _ (And.intro hM.1 (Exists.intro _ (And.intro f19 ?_)))
      refine Exists.intro _ (And.intro hM.1 (Exists.intro _ (And.intro (hM.2.2 18 (by decide)) ?_)))
      refine Exists.intro _ (And.intro hM.1 (Exists.intro _ (And.intro f19 ?_)))
      refine Exists.intro _ (Exists.intro _ (And.intro d18 (And.intro (vp_in_nI hd (by decide)) ?_)))
      rw [nI_clamp (show d < 2 ^ 31 by omega), pm]
      refine And.intro (fun cz => absurd cz (show ¬ (40 : Int32) * nI d + nI (dK D) ≤ nI (40 * d + k) from by rw [e40, nI_add]; exact nI_ge (by omega) (by omega))) (fun _ => ?_)
      refine Exists.intro _ (And.intro hM.1 (Exists.intro _ (And.intro (hM.2.2 19 (by decide)) ?_)))
      refine Exists.intro _ (Exists.intro _ (And.intro d19 (And.intro (vp_in_nI (by omega) (by decide)) ?_)))
      rw [nI_clamp (show 40 * d + k < 2 ^ 31 by omega), w1]
      have ew : nI (if dow D k < 6 then dow D k else dow D k + 4) = nI y ↔ dow D k = y := by
        rw [nI_eq (by split <;> omega) (by omega)]
        split <;> omega
      have eo : nI (dof D k) = (10 : Int32) + nI r ↔ dof D k = 10 + r := by
        rw [show (10 : Int32) = nI 10 from rfl, nI_add, nI_eq (by omega) (by omega)]
      by_cases c1 : dow D k = y
      · refine And.intro (fun cz => absurd (ew.mpr c1) cz) (fun _ => ?_)
        refine Exists.intro _ (And.intro hM.1 (Exists.intro _ (And.intro (hM.2.2 20 (by decide)) ?_)))
        refine Exists.intro _ (Exists.intro _ (And.intro d20 (And.intro (vp_in_nI (by omega) (by decide)) ?_)))
        rw [nI_clamp (show 40 * d + k < 2 ^ 31 by omega), q1]
        by_cases c2 : dof D k = 10 + r
        · refine And.intro (fun cz => absurd (eo.mpr c2) cz) (fun _ => ?_)
          exact And.intro rfl ((h1 ⟨k, hkK, c1, c2⟩))
        · refine And.intro (fun _ => ?_) (fun cz => absurd cz (fun z => c2 (eo.mp z)))
          exact next (fun z => c2 z.2) _ rfl rfl rfl rfl
      · refine And.intro (fun _ => ?_) (fun cz => absurd cz (fun z => c1 (ew.mp z)))
        exact next (fun z => c1 z.1) _ rfl rfl rfl rfl
  refine en_X12_isIn hX [8] 20 rfl ?_
  refine Exists.intro _ (And.intro hM.1 (Exists.intro _ (And.intro f19 ?_)))
  refine go_loc (lv' := [(3, .int ((40 : Int32) * nI d)), (0, .ref o), (1, .int (nI r)), (2, .int (nI y))]) ⟨rfl, rfl, rfl, rfl, trivial⟩ ?_
  rw [e40]
  exact loop (dK D) 0 (Nat.zero_add _) (fun j hj => absurd hj (Nat.not_lt_zero j))
def clP (D : DD) (ch r y : Nat) : Prop := r ≠ y ∧ ch.testBit r = true ∧ ch.testBit y = true ∧ ∃ k, k < dK D ∧ dow D k = y ∧ dof D k = 10 + r
theorem clP_c {D : DD} {ch : Nat} (hw : WD D) : hClash D ch = true ↔ ∃ r y, r < 6 ∧ y < 6 ∧ clP D ch r y := by
  have hr := hw.r
  unfold hClash
  rw [List.any_eq_true]
  constructor
  · rintro ⟨k, hk, hc⟩
    unfold clK at hc
    rw [Bool.and_eq_true, Bool.and_eq_true, Bool.and_eq_true, Bool.and_eq_true, decide_eq_true_eq, decide_eq_true_eq, decide_eq_true_eq] at hc
    obtain ⟨h1, h2, h3, h4, h5⟩ := hc
    have hkK := List.mem_range.mp hk
    have := (hw.c k hkK).2.2
    exact ⟨dof D k - 10, dow D k, by have := hw.i; omega, h2, h3, h4, h5, k, hkK, rfl, by omega⟩
  · rintro ⟨r, y, hr6, hy6, h1, h2, h3, k, hkK, h4, h5⟩
    refine ⟨k, List.mem_range.mpr hkK, ?_⟩
    unfold clK
    rw [h4, h5, Nat.add_sub_cancel_left, h2, h3, decide_eq_true h1, decide_eq_true hy6, decide_eq_true (by omega)]
    rfl
