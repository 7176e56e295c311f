/-! x's search for a test: its places -/
def TO (h : AH) (w qa tail : Nat) : Prop := h (w + 52) = some (.inr (9, [.ref (w + 53), .ref (w + 43), .ref qa, .int (nI tail), .ref (w + 59)]))
/-- the queue and the set hold what is found -/
def TQ (S : BS) (gq gb : Nat → Int64) : Prop := (∀ j, j < S.1 → gq j = lN (2 ^ 20 * (S.2.2.1 j).1 + 2 ^ 17 * (S.2.2.1 j).2 + S.2.1 j)) ∧ ∀ y, y < 131072 → bl (gb (y / 64)) (y % 64) = memB S.2.1 y S.1
def TRh (h : AH) (w qa q0 : Nat) (S : BS) : Prop := ∃ gq gb : Nat → Int64, TO h w qa S.1 ∧ h qa = some (.inl (1, capF q0 S.1, .inr (.inl gq))) ∧ h (w + 59) = some (.inl (1, 2048, .inr (.inl gb))) ∧ TQ S gq gb
/-- where the queue may lie -/
def Qp (w nx qa : Nat) : Prop := (qa = w + 58 ∨ w + 137 ≤ qa) ∧ qa < nx ∧ w + 137 ≤ nx
theorem plI {on s s2 : Nat} (h1 : on < 32) (h2 : s < 64) (h3 : s2 < 64) : ((((nI on &&& 31) <<< ((12 : Int32) &&& 31)) ||| ((nI s &&& 63) <<< ((6 : Int32) &&& 31))) ||| (nI s2 &&& 63)) = nI (4096 * on + 64 * s + s2) := by
  have m : ∀ {a k : Nat}, a < 2 ^ k → nI a &&& nI (2 ^ k - 1) = nI a := fun {a k} h => by rw [nx_and, Nat.and_two_pow_sub_one_eq_mod, Nat.mod_eq_of_lt h]
  rw [show (31 : Int32) = nI (2 ^ 5 - 1) from rfl, show (63 : Int32) = nI (2 ^ 6 - 1) from rfl, m (show on < 2 ^ 5 from h1), m (show s < 2 ^ 6 from h2), m (show s2 < 2 ^ 6 from h3), show (12 : Int32) = nI 12 from rfl, show (6 : Int32) = nI 6 from rfl, show nI (2 ^ 5 - 1) = (31 : Int32) from rfl, nx_shl (by decide), nx_shl (by decide), nx_or, nx_or, Nat.shiftLeft_eq, Nat.shiftLeft_eq]
  congr 1
  rw [Nat.mul_comm on, Nat.mul_comm s, or_add (n := 12) (a := on) (b := 2 ^ 6 * s) (by omega), show 2 ^ 12 * on + 2 ^ 6 * s = 2 ^ 6 * (64 * on + s) by omega, or_add (show s2 < 2 ^ 6 from h3)]
theorem gq_add {S : BS} {gq : Nat → Int64} {k i y : Nat} (hq : ∀ j, j < S.1 → gq j = lN (2 ^ 20 * (S.2.2.1 j).1 + 2 ^ 17 * (S.2.2.1 j).2 + S.2.1 j)) : ∀ j, j < S.1 + 1 → vp_updL gq S.1 (lN (2 ^ 20 * k + 2 ^ 17 * i + y)) j = lN (2 ^ 20 * (upP S.2.2.1 S.1 (k, i) j).1 + 2 ^ 17 * (upP S.2.2.1 S.1 (k, i) j).2 + upN S.2.1 S.1 y j) := by
  intro j hj
  by_cases e : j = S.1
  · rw [e, pk_uLs, show upP S.2.2.1 S.1 (k, i) S.1 = (k, i) from if_pos rfl, upN_s]
  · rw [pk_uLn e, show upP S.2.2.1 S.1 (k, i) j = S.2.2.1 j from if_neg e, upN_n e]
    exact hq j (by omega)
set_option maxHeartbeats 8000000 in
theorem x_reachPlace {l : Launch} {G : GG} {h : AH} {nx : Nat} {Post : Option Value → AH → Nat → Prop} {w qa q0 y k i on s s2 : Nat} {S : BS} (hX : XC G ∧ TX l G) (hv : QV q0) (hR : TRh h w qa q0 S) (hQ : Qp w nx qa) (hy : y = 4096 * on + 64 * s + s2) (hon : on < 32) (hs : s < 64) (hs2 : s2 < 64) (hi : i < 8) (hle : (bAdd S y k i).1 ≤ 131072) (hP : ∀ (h1 : AH) (nx1 qa1 : Nat), (∀ x, x ≠ w + 52 → x ≠ w + 59 → x ≠ qa → x < nx → h1 x = h x) → nx ≤ nx1 → Qp w nx1 qa1 → (qa1 = qa ∨ nx ≤ qa1) → TRh h1 w qa1 q0 (bAdd S y k i) → Post none h1 nx1) : Runs l G i_X9_reachPlace (gC (capF q0 (bAdd S y k i).1) - gC (capF q0 S.1)) (gS (capF q0 (bAdd S y k i).1) - gS (capF q0 S.1)) [.ref (w + 52), .int (nI on), .int (nI s), .int (nI s2), .long (lN (2 ^ 20 * k + 2 ^ 17 * i))] h nx Post := by
  obtain ⟨gq, gb, hO, hq, hb, tq1_, tq2_⟩ := hR
  have e6 := plI hon hs hs2
  rw [← hy] at e6
  have hy17 : y < 131072 := by omega
  have e7 : nI y >>> ((6 : Int32) &&& 31) = nI (y / 64) := by rw [show (6 : Int32) = nI 6 from rfl, nx_shr (by omega) (by decide), Nat.shiftRight_eq_div_pow]
  obtain ⟨Q1, Q2, Q3⟩ := hQ
  refine en_X9_reachPlace hX [22] 60 rfl ?_
  refine go_loc (lv' := [(6, .int ((((nI on &&& 31) <<< ((12 : Int32) &&& 31)) ||| ((nI s &&& 63) <<< ((6 : Int32) &&& 31))) ||| (nI s2 &&& 63))), (0, .ref (w + 52)), (4, .long (lN (2 ^ 20 * k + 2 ^ 17 * i)))]) ⟨rfl, rfl, rfl, trivial⟩ ?_
  rw [e6]
  refine Go.of hX.2 ck_X9_reachPlace [] 100 ?_
  refine Exists.intro _ (And.intro hO (Exists.intro _ (And.intro rfl ?_)))
  refine Exists.intro _ (Exists.intro _ (And.intro hb (And.intro (by rw [e7]; exact vp_in_nI (by omega) (by decide)) ?_)))
  have e8 : lg_cmp (gb (nI y >>> ((6 : Int32) &&& 31)).toNatClampNeg &&& ((1 : Int64) <<< ((nI y &&& 63).toInt64 &&& 63))) 0 = 0 ↔ memB S.2.1 y S.1 = false := by
    rw [cmp_eq, e7, nI_clamp (by omega), lo_63, ← tq2_ y hy17]
    exact bl_has _ _ (by omega)
  cases hm : memB S.2.1 y S.1 with
  | true =>
    rw [hm] at e8
    refine And.intro (fun _ => ?_) (fun cz => absurd cz (fun z => absurd (e8.mp z) (by decide)))
    have e9 : bAdd S y k i = S := by unfold bAdd; rw [if_pos hm]
    rw [e9] at hP
    exact hP h nx qa (fun _ _ _ _ _ => rfl) (Nat.le_refl _) ⟨Q1, Q2, Q3⟩ (Or.inl rfl) ⟨gq, gb, hO, hq, hb, tq1_, tq2_⟩
  | false =>
    rw [hm] at e8
    refine And.intro (fun cz => absurd (e8.mpr rfl) cz) (fun _ => ?_)
    have e9 : bAdd S y k i = (S.1 + 1, upN S.2.1 S.1 y, upP S.2.2.1 S.1 (k, i), S.2.2.2) := by unfold bAdd; rw [if_neg (by rw [hm]; decide)]
    have e10 : (bAdd S y k i).1 = S.1 + 1 := by rw [e9]
    rw [e10] at hle
    have hcap := capF_ok hv (show S.1 ≤ 131072 by omega)
    have hcl : capF q0 S.1 ≤ 131072 := by have := hcap.1; unfold QV at this; omega
    refine Exists.intro _ (And.intro hO (Exists.intro _ (And.intro rfl ?_)))
    refine And.intro (fun _ => ?_) (fun cz => absurd (nI_lt (a := S.1) (b := 131072) (by omega) (by decide)) cz)
    refine Exists.intro _ (And.intro hO (Exists.intro _ (And.intro rfl ?_)))
    refine Exists.intro _ (Exists.intro _ (And.intro hb (And.intro (by rw [e7]; exact vp_in_nI (by omega) (by decide)) ?_)))
    refine Exists.intro _ (Exists.intro _ (And.intro hb (And.intro (by rw [e7]; exact vp_in_nI (by omega) (by decide)) ?_)))
    have n52 : w + 52 ≠ w + 59 := by omega
    have nqa : qa ≠ w + 59 ∧ qa ≠ w + 52 := by omega
    have hbits : ∀ y2, y2 < 131072 → bl (vp_updL gb (nI y >>> ((6 : Int32) &&& 31)).toNatClampNeg (gb (nI y >>> ((6 : Int32) &&& 31)).toNatClampNeg ||| ((1 : Int64) <<< ((nI y &&& 63).toInt64 &&& 63))) (y2 / 64)) (y2 % 64) = memB (upN S.2.1 S.1 y) y2 (S.1 + 1) := by
      intro y2 hy2
      rw [memB_up, e7, nI_clamp (by omega), lo_63, ← tq2_ y2 hy2]
      by_cases c1 : y2 / 64 = y / 64
      · rw [c1, pk_uLs, bl_orbit (by omega), Bool.or_comm]
        congr 1
        by_cases c2 : y = y2
        · rw [c2, decide_eq_true rfl, decide_eq_true rfl]
        · rw [decide_eq_false c2, decide_eq_false (by omega)]
      · rw [pk_uLn c1, decide_eq_false (show ¬ y = y2 from fun z => c1 (by rw [z])), Bool.false_or]
    have hvl : lN (2 ^ 20 * k + 2 ^ 17 * i) ||| (nI y).toInt64 = lN (2 ^ 20 * k + 2 ^ 17 * i + y) := by
      rw [nI_l (by omega), lx_or, show 2 ^ 20 * k + 2 ^ 17 * i = 2 ^ 17 * (8 * k + i) by omega, or_add (show y < 2 ^ 17 from hy17)]
    refine Exists.intro _ (And.intro ((uph_ne n52).trans hO) (Exists.intro _ (And.intro rfl ?_)))
    refine Exists.intro _ (And.intro ((uph_ne n52).trans hO) (Exists.intro _ (And.intro rfl ?_)))
    refine Exists.intro _ (Exists.intro _ (And.intro ((uph_ne nqa.1).trans hq) (And.intro (by decide) ?_)))
    rcases capF_s hv (show S.1 < 131072 by omega) with ⟨z1, z2⟩ | ⟨z1, z2, z3⟩
    · refine And.intro (fun _ => ?_) (fun cz => absurd (show nI S.1 < nI (capF q0 S.1) from nI_lt z1 (by omega)) cz)
      refine Exists.intro _ (And.intro ((uph_ne n52).trans hO) (Exists.intro _ (And.intro rfl ?_)))
      refine Exists.intro _ (And.intro ((uph_ne n52).trans hO) (Exists.intro _ (And.intro rfl ?_)))
      refine Exists.intro _ (Exists.intro _ (And.intro ((uph_ne nqa.1).trans hq) (And.intro (vp_in_nI z1 (by omega)) ?_)))
      rw [nI_clamp (show S.1 < 2 ^ 31 by omega), hvl]
      refine Exists.intro _ (And.intro ((uph_ne (Ne.symm nqa.2)).trans ((uph_ne n52).trans hO)) (Exists.intro _ (And.intro rfl ?_)))
      refine Exists.intro _ (And.intro ((uph_ne (Ne.symm nqa.2)).trans ((uph_ne n52).trans hO)) (And.intro (Nat.le_of_ble_eq_true rfl) (And.intro rfl (And.intro rfl ?_))))
      refine hP _ nx qa (fun x x1 x2 x3 _ => by rw [uph_ne x1, uph_ne x3, uph_ne x2]) (Nat.le_refl _) ⟨Q1, Q2, Q3⟩ (Or.inl rfl) ?_
      rw [e9]
      refine ⟨_, _, ?_, ?_, ?_, gq_add tq1_, hbits⟩
      · show uph _ _ _ _ = _
        refine uph_eq.trans ?_
        rw [show nI S.1 + 1 = nI (S.1 + 1) from (nI_succ _).symm]
        rfl
      · rw [uph_ne nqa.2, uph_eq]
        rw [show capF q0 (S.1 + 1, upN S.2.1 S.1 y, upP S.2.2.1 S.1 (k, i), S.2.2.2).1 = capF q0 S.1 from z2]
      · rw [uph_ne (Ne.symm n52), uph_ne (Ne.symm nqa.1), uph_eq]
    · have hx := nxC_ok hcap.1 z3
      have hgS : gS (capF q0 (bAdd S y k i).1) - gS (capF q0 S.1) = nxC (capF q0 S.1) ∧ gC (capF q0 (bAdd S y k i).1) - gC (capF q0 S.1) = 1 := by
        rw [e10, z2, hx.2.1, hx.2.2.1]
        omega
      have hcc : capF q0 S.1 = S.1 := by omega
      refine And.intro (fun cz => absurd cz (show ¬ nI S.1 < nI (capF q0 S.1) from nI_nlt z1 (by omega))) (fun _ => ?_)
      refine Exists.intro _ (And.intro ((uph_ne n52).trans hO) (Exists.intro _ (And.intro rfl ?_)))
      refine Exists.intro _ (And.intro ((uph_ne n52).trans hO) (Exists.intro _ (And.intro rfl ?_)))
      refine Exists.intro _ (Exists.intro _ (And.intro ((uph_ne nqa.1).trans hq) (And.intro (by decide) ?_)))
      refine And.intro rfl ?_
      have e11 : (if (4 : Int32) * Int32.ofNat ((capF q0 S.1, Sum.inr (Sum.inl gq)) : vp_A).1 < 131072 then (4 : Int32) * Int32.ofNat ((capF q0 S.1, Sum.inr (Sum.inl gq)) : vp_A).1 else 131072) = nI (nxC (capF q0 S.1)) := by
        rw [show Int32.ofNat ((capF q0 S.1, Sum.inr (Sum.inl gq)) : vp_A).1 = nI (capF q0 S.1) from rfl, show (4 : Int32) = nI 4 from rfl, nI_mul, show (131072 : Int32) = nI 131072 from rfl]
        unfold nxC
        by_cases c1 : 4 * capF q0 S.1 < 131072
        · rw [if_pos (nI_lt c1 (by decide)), Nat.min_eq_right (by omega)]
        · rw [if_neg (nI_nlt (by omega) (by omega)), Nat.min_eq_left (by omega)]
      rw [e11]
      refine Exists.intro 1 (Exists.intro (nxC (capF q0 S.1)) (And.intro (by rw [hgS.2]; exact Nat.le_refl _) (And.intro (by rw [hgS.1]; exact Nat.le_of_eq (Nat.zero_add _)) (c_copyOf hX ((uph_ne nqa.1).trans hq) hx.2.2.2.1 hx.2.2.2.2 (by omega) ?_))))
      have n1 : w + 52 ≠ nx := by omega
      have n2 : w + 59 ≠ nx := by omega
      refine Exists.intro _ (And.intro ((uph_ne n1).trans ((uph_ne n52).trans hO)) (And.intro (Nat.le_of_ble_eq_true rfl) (And.intro rfl (And.intro rfl ?_))))
      refine Exists.intro _ (And.intro uph_eq (Exists.intro _ (And.intro rfl ?_)))
      refine Exists.intro _ (And.intro uph_eq (Exists.intro _ (And.intro rfl ?_)))
      refine Exists.intro _ (Exists.intro _ (And.intro ((uph_ne (Ne.symm n1)).trans uph_eq) (And.intro (vp_in_nI (n := S.1) (by omega) (by omega)) ?_)))
      rw [nI_clamp (show S.1 < 2 ^ 31 by omega), hvl]
      refine Exists.intro _ (And.intro ((uph_ne n1).trans uph_eq) (Exists.intro _ (And.intro rfl ?_)))
      refine Exists.intro _ (And.intro ((uph_ne n1).trans uph_eq) (And.intro (Nat.le_of_ble_eq_true rfl) (And.intro rfl (And.intro rfl ?_))))
      refine hP _ (nx + 1) nx (fun x x1 x2 x3 x4 => by rw [uph_ne x1, uph_ne (by omega), uph_ne x1, uph_ne (by omega), uph_ne x2]) (by omega) ⟨Or.inr Q3, by omega, by omega⟩ (Or.inr (Nat.le_refl _)) ?_
      rw [e9]
      refine ⟨_, _, ?_, ?_, ?_, gq_add (gq := va_cpy gq (fun _ => 0) 0 0 (capF q0 S.1)) (fun j hj => ?_), hbits⟩
      · show uph _ _ _ _ = _
        refine uph_eq.trans ?_
        rw [show nI S.1 + 1 = nI (S.1 + 1) from (nI_succ _).symm]
        rfl
      · rw [uph_ne (Ne.symm n1), uph_eq]
        rw [show capF q0 (S.1 + 1, upN S.2.1 S.1 y, upP S.2.2.1 S.1 (k, i), S.2.2.2).1 = nxC (capF q0 S.1) from z2]
      · rw [uph_ne (Ne.symm n52), uph_ne n2, uph_ne (Ne.symm n52), uph_ne n2, uph_eq]
      · rw [pk_cpy_in (Nat.zero_le _) (by omega), Nat.zero_add, Nat.sub_zero]
        exact tq1_ j hj
