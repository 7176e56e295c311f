/-! a text's drawing: each contact is in its circuit; leaves; items -/
section IN
variable {kd : Nat → Nat} {N : Nat}
theorem in_c (h : TXT kd N) : ∀ {i : Nat}, i ≤ N → 10 ≤ zS (zz kd i) → zT (zz kd i) ≠ 10 → ∃ j, j < i ∧ kd j = 13 ∧ i ≤ j + 1 + cLc kd N (j + 1)
  | 0, _, h1, _ => absurd (show 10 ≤ 0 from h1) (by decide)
  | i + 1, hi, h1, h2 => by
    obtain ⟨s, b1, b2, e, _⟩ := h.st (show i < N by omega)
    have ac := zac b2 b1
    have eS : zS (zz kd (i + 1)) = s := by rw [e, zA_S]
    have eT : zT (zz kd (i + 1)) = if zS (zz kd i) = 0 then kd i else zT (zz kd i) := by rw [e, zA_T]
    have t10 := ac.2.2.2.2.2.2.2.2.2.2.1
    by_cases c : 10 ≤ zS (zz kd i)
    · rw [if_neg (by omega)] at eT
      obtain ⟨j, j1, j2, j3⟩ := in_c h (i := i) (by omega) c (by omega)
      refine ⟨j, by omega, j2, ?_⟩
      rcases Nat.lt_or_ge i (j + 1 + cLc kd N (j + 1)) with z | z
      · omega
      · have ei : i = j + 1 + cLc kd N (j + 1) := by omega
        obtain ⟨_, q2, _, _, _, _, _, q8, _⟩ := h.q13 (show j < N by omega) j2
        obtain ⟨_, s2, s3, _⟩ := seg_c h (show j + 1 ≤ N by omega) q2 q8
        rw [← ei] at s3
        have := zfr b2 c b1
        omega
    · have w14 := (h.w (show i ≤ N by omega)).2.2.2.2.2.2.2.2.2.2.2.2.2.1
      have q4 := ac.2.2.2.2.2.2.2.1
      have q6 := ac.2.2.2.2.2.2.1
      have k13 : kd i = 13 := by
        rcases t10 (by omega) with z | z | z | z
        · have := q4 z; omega
        · exact (q6 z).1
        · exfalso
          rw [if_neg (by omega)] at eT
          have := w14 (Or.inr z); omega
        · omega
      exact ⟨i, by omega, k13, by omega⟩
theorem in_K (h : TXT kd N) {k : Nat} (hk : k < zK (zz kd N)) : ∃ j x, j < N ∧ kd j = 13 ∧ x < cLc kd N (j + 1) ∧ j + 1 + x < N ∧ kd (j + 1 + x) = 2 ∧ tkK kd N k = j + 1 + x ∧ zK (zz kd (j + 1)) + nmE (sqL kd (j + 1) x) = k ∧ ownZ (zz kd (j + 1 + x)) = ownZ (zz kd j) ∧ zC (zz kd (j + 1 + x)) = true ∧ zS (zz kd (j + 1)) = 10 ∧ zD (zz kd (j + 1)) = 0 ∧ nmE (sqL kd (j + 1) x) < nmE (sqL kd (j + 1) (cLc kd N (j + 1))) := by
  obtain ⟨i, _, hi, c1, c2, c3, c4⟩ := exK h (i0 := 0) (m := N) (k := k) (by omega) (Nat.zero_le _) (by rw [Nat.zero_add]; exact hk)
  rw [Nat.zero_add] at hi
  have cs := zC_S c1
  obtain ⟨j, j1, j2, j3⟩ := in_c h (show i ≤ N by omega) (by omega) cs.2
  obtain ⟨x, rfl⟩ := Nat.exists_eq_add_of_le (show j + 1 ≤ i by omega)
  obtain ⟨_, q2, q3, q4, q5, q6, _, q8, _⟩ := h.q13 (show j < N by omega) j2
  obtain ⟨s1, s2, s3, s4, s5, s6⟩ := seg_c h (show j + 1 ≤ N by omega) q2 q8
  have hx : x < cLc kd N (j + 1) := by
    rcases Nat.lt_or_ge x (cLc kd N (j + 1)) with z | z
    · exact z
    · have : x = cLc kd N (j + 1) := by omega
      subst this
      omega
  obtain ⟨y1, y2, y3, y4, y5, y6, y7⟩ := s5 x (by omega)
  rw [if_neg (by omega)] at y7
  have mm := nmE_mo (kd := kd) (a := j + 1) (show x + 1 ≤ cLc kd N (j + 1) by omega)
  rw [nmE_s, if_pos c2] at mm
  refine ⟨j, x, by omega, j2, hx, hi, c2, c4, by omega, ?_, c1, q2, q8, by omega⟩
  unfold ownZ
  rw [y1, y3, y4, q3, q4, q5]
theorem trB_tb {st : Nat → Nat} (v : Nat) : (trB st 5).testBit v = (decide (6 ≤ v) && (decide (v < 11) && decide (st (v - 6) = 5))) := by
  unfold trB
  rw [bsum_tb]
  cases decide (v < 11) with
  | true => rfl
  | false => rw [Bool.false_and, Bool.false_and, Bool.and_false]
theorem leaf_c {tr : Nat → Bool} {st : Nat → Nat} {on up v I : Nat} (hv : v < 6 + I) (hI : I ≤ 5) (hst : ∀ k, k < I → tr k = decide (st k = 5)) (hup : up < 64) : ((64 * on + up).testBit v ^^ (trB st 5).testBit v) = thv tr on up (if v < 6 then 10 + v else v - 6) := by
  rw [trB_tb, show (64 : Nat) = 2 ^ 6 from rfl, Nat.testBit_two_pow_mul_add _ (show up < 2 ^ 6 by omega)]
  unfold thv
  by_cases c : v < 6
  · rw [if_pos c, if_pos c, if_pos (by omega), decide_eq_false (show ¬ 6 ≤ v by omega), Bool.false_and, Bool.xor_false, Nat.add_sub_cancel_left]
  · rw [if_neg c, if_neg c, if_neg (by omega), decide_eq_true (show 6 ≤ v by omega), decide_eq_true (show v < 11 by omega), Bool.true_and, Bool.true_and, hst _ (by omega)]
/-- the names of items told ahead of token i, and their kinds -/
def iN (kd : Nat → Nat) (vl : Nat → Int64) (N i x : Nat) : Int64 := if x < 6 then (if x < zR (zz kd i) then vl (tkR kd N x) else 0) else if x < 11 then (if x - 6 < zL (zz kd i) then vl (tkL kd N (x - 6)) else 0) else if x - 11 < zI (zz kd i) then vl (tkI kd N (x - 11)) else 0
def iS (kd : Nat → Nat) (N i x : Nat) : Nat := if x < 6 then 0 else if x < 11 then (if x - 6 < zL (zz kd i) then zT (zz kd (tkL kd N (x - 6))) else 0) else if x - 11 < zI (zz kd i) then zT (zz kd (tkI kd N (x - 11))) else 0
theorem it_k (h : TXT kd N) {i : Nat} (hi : i < N) (hn : zN (zS (zz kd i)) = false) : zI (zz kd (i + 1)) = zI (zz kd i) ∧ zR (zz kd (i + 1)) = zR (zz kd i) ∧ zL (zz kd (i + 1)) = zL (zz kd i) ∧ toL kd (i + 1) = toL kd i := by
  obtain ⟨s, b1, b2, e, _⟩ := h.st hi
  have hn2 : ¬ (zS (zz kd i) = 1 ∨ zS (zz kd i) = 3 ∨ zS (zz kd i) = 7) := fun z => by
    unfold zN at hn
    rw [Bool.or_eq_false_iff, Bool.or_eq_false_iff, decide_eq_false_iff_not, decide_eq_false_iff_not, decide_eq_false_iff_not] at hn
    omega
  refine ⟨by rw [e, zA_I, if_neg (by omega)], by rw [e, zA_R, if_neg (by omega)], by rw [e, zA_L, if_neg (by omega)], by rw [toL_s, if_neg (by rw [hn]; decide)]⟩
theorem it_s (h : TXT kd N) {vl : Nat → Int64} {i : Nat} (hi : i < N) (hn : zN (zS (zz kd i)) = true) : zT (zz kd i) < 19 ∧ zNo (zz kd i) < 6 ∧ itm (zT (zz kd i)) (zNo (zz kd i)) < 16 ∧ (∀ x, iN kd vl N (i + 1) x = if x = itm (zT (zz kd i)) (zNo (zz kd i)) then vl i else iN kd vl N i x) ∧ (∀ x, iS kd N (i + 1) x = if x = itm (zT (zz kd i)) (zNo (zz kd i)) then (if zT (zz kd i) = 6 then 0 else zT (zz kd i)) else iS kd N i x) ∧ zI (zz kd (i + 1)) = (if zT (zz kd i) = 6 then zI (zz kd i) else if zT (zz kd i) = 8 ∨ zT (zz kd i) = 9 then zI (zz kd i) else zI (zz kd i) + 1) ∧ zR (zz kd (i + 1)) = (if zT (zz kd i) = 6 then zR (zz kd i) + 1 else zR (zz kd i)) ∧ zL (zz kd (i + 1)) = (if zT (zz kd i) = 6 then zL (zz kd i) else if zT (zz kd i) = 8 ∨ zT (zz kd i) = 9 then zL (zz kd i) + 1 else zL (zz kd i)) ∧ toL kd (i + 1) = toL kd i ++ [i] := by
  obtain ⟨s, b1, b2, e, _⟩ := h.st hi
  have eI : zI (zz kd (i + 1)) = if zS (zz kd i) = 1 ∧ kd i = 2 then zI (zz kd i) + 1 else zI (zz kd i) := by rw [e, zA_I]
  have eR : zR (zz kd (i + 1)) = if zS (zz kd i) = 3 ∧ kd i = 2 then zR (zz kd i) + 1 else zR (zz kd i) := by rw [e, zA_R]
  have eL : zL (zz kd (i + 1)) = if zS (zz kd i) = 7 ∧ kd i = 2 then zL (zz kd i) + 1 else zL (zz kd i) := by rw [e, zA_L]
  obtain ⟨_, _, _, x1, x2, x3, _⟩ := h.w (Nat.le_refl N)
  have et : toL kd (i + 1) = toL kd i ++ [i] := by rw [toL_s, if_pos hn]
  have hm : i ∈ toL kd N := List.mem_filter.mpr ⟨List.mem_range.mpr hi, hn⟩
  obtain ⟨_, ⟨y1, y2, y3, y4⟩ | ⟨y1, y2, y3, y4⟩ | ⟨y1, y2, y3, y4⟩⟩ := told_c h hm
  · have k2 := (h.s1 hi y1).1
    rw [if_pos ⟨y1, k2⟩] at eI
    rw [if_neg (by omega)] at eR eL
    have tk := tkI_c h hi y1
    have n6 : zT (zz kd i) ≠ 6 := by omega
    have n8 : ¬ (zT (zz kd i) = 8 ∨ zT (zz kd i) = 9) := by omega
    have eit : itm (zT (zz kd i)) (zNo (zz kd i)) = 11 + zI (zz kd i) := by unfold itm; rw [if_neg n6, if_neg n8, y3]
    rw [eit, if_neg n6, if_neg n6, if_neg n8, if_neg n6, if_neg n6, if_neg n8]
    refine ⟨by omega, by omega, by omega, fun x => ?_, fun x => ?_, eI, eR, eL, et⟩
    · unfold iN
      rw [eI, eR, eL]
      by_cases c : x = 11 + zI (zz kd i)
      · rw [if_pos c, if_neg (by omega), if_neg (by omega), if_pos (by omega), show x - 11 = zI (zz kd i) by omega, tk]
      · rw [if_neg c]
        split
        · rfl
        · split
          · rfl
          · by_cases c2 : x - 11 < zI (zz kd i)
            · rw [if_pos c2, if_pos (by omega)]
            · rw [if_neg c2, if_neg (by omega)]
    · unfold iS
      rw [eI, eL]
      by_cases c : x = 11 + zI (zz kd i)
      · rw [if_pos c, if_neg (by omega), if_neg (by omega), if_pos (by omega), show x - 11 = zI (zz kd i) by omega, tk]
      · rw [if_neg c]
        split
        · rfl
        · split
          · rfl
          · by_cases c2 : x - 11 < zI (zz kd i)
            · rw [if_pos c2, if_pos (by omega)]
            · rw [if_neg c2, if_neg (by omega)]
  · have k2 := (h.s3 hi y1).1
    rw [if_pos ⟨y1, k2⟩] at eR
    rw [if_neg (by omega)] at eI eL
    have tk := tkR_c h hi y1
    have eit : itm (zT (zz kd i)) (zNo (zz kd i)) = zR (zz kd i) := by unfold itm; rw [if_pos y2, y3]
    rw [eit, if_pos y2, if_pos y2, if_pos y2, if_pos y2]
    refine ⟨by omega, by omega, by omega, fun x => ?_, fun x => ?_, eI, eR, eL, et⟩
    · unfold iN
      rw [eI, eR, eL]
      by_cases c : x = zR (zz kd i)
      · rw [if_pos c, if_pos (by omega), if_pos (by omega), c, tk]
      · rw [if_neg c]
        by_cases c6 : x < 6
        · rw [if_pos c6, if_pos c6]
          by_cases c2 : x < zR (zz kd i)
          · rw [if_pos c2, if_pos (by omega)]
          · rw [if_neg c2, if_neg (by omega)]
        · rw [if_neg c6, if_neg c6]
    · unfold iS
      rw [eI, eL]
      by_cases c : x = zR (zz kd i)
      · rw [if_pos c, if_pos (by omega)]
      · rw [if_neg c]
  · have k2 := (h.s7 hi y1).1
    rw [if_pos ⟨y1, k2⟩] at eL
    rw [if_neg (by omega)] at eI eR
    have tk := tkL_c h hi y1
    have n6 : zT (zz kd i) ≠ 6 := by omega
    have eit : itm (zT (zz kd i)) (zNo (zz kd i)) = 6 + zL (zz kd i) := by unfold itm; rw [if_neg n6, if_pos y2, y3]
    rw [eit, if_neg n6, if_neg n6, if_pos y2, if_neg n6, if_neg n6, if_pos y2]
    refine ⟨by omega, by omega, by omega, fun x => ?_, fun x => ?_, eI, eR, eL, et⟩
    · unfold iN
      rw [eI, eR, eL]
      by_cases c : x = 6 + zL (zz kd i)
      · rw [if_pos c, if_neg (by omega), if_pos (by omega), if_pos (by omega), show x - 6 = zL (zz kd i) by omega, tk]
      · rw [if_neg c]
        split
        · rfl
        · split
          · by_cases c2 : x - 6 < zL (zz kd i)
            · rw [if_pos c2, if_pos (by omega)]
            · rw [if_neg c2, if_neg (by omega)]
          · rfl
    · unfold iS
      rw [eI, eL]
      by_cases c : x = 6 + zL (zz kd i)
      · rw [if_pos c, if_neg (by omega), if_pos (by omega), if_pos (by omega), show x - 6 = zL (zz kd i) by omega, tk]
      · rw [if_neg c]
        split
        · rfl
        · split
          · by_cases c2 : x - 6 < zL (zz kd i)
            · rw [if_pos c2, if_pos (by omega)]
            · rw [if_neg c2, if_neg (by omega)]
          · rfl
end IN
