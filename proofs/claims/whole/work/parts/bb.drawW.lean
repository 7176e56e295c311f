/-! the drawing of a text is as drawings are -/
theorem cLn_no {kd : Nat → Nat} : ∀ (f a j : Nat), j < cLn kd f a → kd (a + j) ≠ 12
  | 0, _, j, h => absurd h (Nat.not_lt_zero j)
  | f + 1, a, j, h => by
    by_cases c : kd a = 12
    · rw [show cLn kd (f + 1) a = 0 from if_pos c] at h
      exact absurd h (Nat.not_lt_zero j)
    · rw [show cLn kd (f + 1) a = cLn kd f (a + 1) + 1 from if_neg c] at h
      cases j with
      | zero => exact c
      | succ j =>
        have := cLn_no (kd := kd) f (a + 1) j (by omega)
        rw [show a + (j + 1) = a + 1 + j by omega]
        exact this
section TX2
variable {kd : Nat → Nat} {N : Nat}
theorem seg_c (h : TXT kd N) {a : Nat} (ha : a ≤ N) (hs : zS (zz kd a) = 10) (hd : zD (zz kd a) = 0) : wfE 10 0 (sqL kd a (cLc kd N a)) ∧ a + cLc kd N a < N ∧ kd (a + cLc kd N a) = 12 ∧ zS (zz kd (a + cLc kd N a)) = 12 ∧ (∀ j, j ≤ cLc kd N a → zT (zz kd (a + j)) = zT (zz kd a) ∧ zI (zz kd (a + j)) = zI (zz kd a) ∧ zR (zz kd (a + j)) = zR (zz kd a) ∧ zL (zz kd (a + j)) = zL (zz kd a) ∧ zV (zz kd (a + j)) = zV (zz kd a) ∧ 10 ≤ zS (zz kd (a + j)) ∧ zK (zz kd (a + j)) = zK (zz kd a) + (if zT (zz kd a) = 10 then 0 else nmE (sqL kd a j))) ∧ ∀ j, j < cLc kd N a → kd (a + j) = 2 ∨ kd (a + j) = 14 ∨ kd (a + j) = 15 ∨ kd (a + j) = 16 ∨ kd (a + j) = 17 ∨ kd (a + j) = 18 := by
  obtain ⟨c1, c2, c3, c4, _, c6⟩ := c_wf h.1 h.2.1 h.2.2 (N - a) a (by omega) (by omega)
  rw [hs, hd] at c1
  refine ⟨c1, c2, c3, c4, c6, fun j hj => ?_⟩
  have n12 := cLn_no (kd := kd) (N - a) a j hj
  have c2 : a + cLc kd N a < N := c2
  obtain ⟨s, h1, h2, e, _⟩ := h.st (show a + j < N by omega)
  have h10 := (c6 j (Nat.le_of_lt hj)).2.2.2.2.2.1
  have := zfr h2 h10 h1
  omega
theorem exI (h : TXT kd N) {k : Nat} (hk : k < zI (zz kd N)) : ∃ i, i < N ∧ zS (zz kd i) = 1 ∧ kd i = 2 ∧ zI (zz kd i) = k ∧ tkI kd N k = i := by
  obtain ⟨q, _, hq, e1, e2⟩ := z_reach (f := fun i => zI (zz kd i)) (i := 0) (k := k) (m := N) (Nat.zero_le _) (by rw [Nat.zero_add]; exact hk) (fun q _ hq => by
    obtain ⟨s, h1, h2, e, _⟩ := h.st (show q < N by omega)
    show zI (zz kd (q + 1)) ≤ zI (zz kd q) + 1
    rw [e, zA_I]
    split <;> omega)
  rw [Nat.zero_add] at hq
  have e1 : zI (zz kd q) = k := e1
  have e2 : zI (zz kd (q + 1)) = k + 1 := e2
  obtain ⟨s, h1, h2, e, _⟩ := h.st hq
  rw [e, zA_I] at e2
  split at e2
  · next y => exact ⟨q, hq, y.1, y.2, e1, by rw [← e1]; exact tkI_c h hq y.1⟩
  · omega
theorem exR (h : TXT kd N) {k : Nat} (hk : k < zR (zz kd N)) : ∃ i, i < N ∧ zS (zz kd i) = 3 ∧ kd i = 2 ∧ zR (zz kd i) = k ∧ tkR kd N k = i := by
  obtain ⟨q, _, hq, e1, e2⟩ := z_reach (f := fun i => zR (zz kd i)) (i := 0) (k := k) (m := N) (Nat.zero_le _) (by rw [Nat.zero_add]; exact hk) (fun q _ hq => by
    obtain ⟨s, h1, h2, e, _⟩ := h.st (show q < N by omega)
    show zR (zz kd (q + 1)) ≤ zR (zz kd q) + 1
    rw [e, zA_R]
    split <;> omega)
  rw [Nat.zero_add] at hq
  have e1 : zR (zz kd q) = k := e1
  have e2 : zR (zz kd (q + 1)) = k + 1 := e2
  obtain ⟨s, h1, h2, e, _⟩ := h.st hq
  rw [e, zA_R] at e2
  split at e2
  · next y => exact ⟨q, hq, y.1, y.2, e1, by rw [← e1]; exact tkR_c h hq y.1⟩
  · omega
theorem exL (h : TXT kd N) {k : Nat} (hk : k < zL (zz kd N)) : ∃ i, i < N ∧ zS (zz kd i) = 7 ∧ kd i = 2 ∧ zL (zz kd i) = k ∧ tkL kd N k = i := by
  obtain ⟨q, _, hq, e1, e2⟩ := z_reach (f := fun i => zL (zz kd i)) (i := 0) (k := k) (m := N) (Nat.zero_le _) (by rw [Nat.zero_add]; exact hk) (fun q _ hq => by
    obtain ⟨s, h1, h2, e, _⟩ := h.st (show q < N by omega)
    show zL (zz kd (q + 1)) ≤ zL (zz kd q) + 1
    rw [e, zA_L]
    split <;> omega)
  rw [Nat.zero_add] at hq
  have e1 : zL (zz kd q) = k := e1
  have e2 : zL (zz kd (q + 1)) = k + 1 := e2
  obtain ⟨s, h1, h2, e, _⟩ := h.st hq
  rw [e, zA_L] at e2
  split at e2
  · next y => exact ⟨q, hq, y.1, y.2, e1, by rw [← e1]; exact tkL_c h hq y.1⟩
  · omega
theorem exK (h : TXT kd N) {i0 m k : Nat} (hm : i0 + m ≤ N) (h0 : zK (zz kd i0) ≤ k) (hk : k < zK (zz kd (i0 + m))) : ∃ i, i0 ≤ i ∧ i < i0 + m ∧ zC (zz kd i) = true ∧ kd i = 2 ∧ zK (zz kd i) = k ∧ tkK kd N k = i := by
  obtain ⟨q, hq0, hq, e1, e2⟩ := z_reach (f := fun i => zK (zz kd i)) (i := i0) (k := k) (m := m) h0 hk (fun q _ hq => by
    obtain ⟨s, h1, h2, e, _⟩ := h.st (show q < N by omega)
    show zK (zz kd (q + 1)) ≤ zK (zz kd q) + 1
    rw [e, zA_K]
    split <;> omega)
  have e1 : zK (zz kd q) = k := e1
  have e2 : zK (zz kd (q + 1)) = k + 1 := e2
  obtain ⟨s, h1, h2, e, _⟩ := h.st (show q < N by omega)
  rw [e, zA_K] at e2
  split at e2
  · next y => exact ⟨q, hq0, hq, y.1, y.2, e1, by rw [← e1]; exact tkK_c h (by omega) y.1 y.2⟩
  · omega
theorem exX (h : TXT kd N) {k : Nat} (hk : k < zV (zz kd N)) : ∃ i, i + 1 < N ∧ zS (zz kd i) = 8 ∧ kd i = 2 ∧ zV (zz kd i) = k + 1 ∧ tkX kd N k = i ∧ tkV kd N k = i + 2 ∧ zS (zz kd (i + 1)) = 9 ∧ zS (zz kd (i + 2)) = 10 ∧ zT (zz kd (i + 2)) = 10 ∧ zD (zz kd (i + 2)) = 0 := by
  obtain ⟨q, _, hq, e1, e2⟩ := z_reach (f := fun i => zV (zz kd i)) (i := 0) (k := k) (m := N) (Nat.zero_le _) (by rw [Nat.zero_add]; exact hk) (fun q _ hq => by
    obtain ⟨s, h1, h2, e, _⟩ := h.st (show q < N by omega)
    show zV (zz kd (q + 1)) ≤ zV (zz kd q) + 1
    rw [e, zA_V]
    split <;> omega)
  rw [Nat.zero_add] at hq
  have e1 : zV (zz kd q) = k := e1
  have e2 : zV (zz kd (q + 1)) = k + 1 := e2
  obtain ⟨s, h1, h2, e, _⟩ := h.st hq
  have e3 := e2
  rw [e, zA_V] at e3
  split at e3
  · next y =>
    have h1 := h1
    rw [y.1, y.2] at h1
    have hs8 : s = 8 := by
      have h1 : some 8 = some s := h1
      injection h1 with h1
      exact h1.symm
    have s8 : zS (zz kd (q + 1)) = 8 := by rw [e, zA_S]; exact hs8
    have hq1 : q + 1 < N := by
      rcases Nat.lt_or_ge (q + 1) N with z | z
      · exact z
      · have e4 : q + 1 = N := by omega
        rw [e4, h.2.2] at s8
        omega
    obtain ⟨a1, a2, a3, a4, a5, a6⟩ := h.s8 hq1 s8
    obtain ⟨b1, b2, b3, b4, b5, b6, b7⟩ := h.s9 a6 a2
    exact ⟨q + 1, a6, s8, a1, e2, tkX_c h hq1 s8 e2, tkV_c h a6 a2 (a3.trans e2), a2, b2, b6, b7⟩
  · omega
end TX2
/-- one name, one thing -/
theorem told_un {kd : Nat → Nat} {vl : Nat → Int64} {N : Nat} (h : TXT kd N) (hF : ∀ i, i < N → fX kd vl N i = 0) {t s : Nat} (ht : t ∈ toL kd N) (hs : s ∈ toL kd N) (e : vl t = vl s) : t = s := by
  have key : ∀ {t s : Nat}, t ∈ toL kd N → s ∈ toL kd N → vl t = vl s → ¬ t < s := fun {t s} ht hs e z => by
    obtain ⟨a1, a2⟩ := List.mem_filter.mp hs
    have hlt := List.mem_range.mp a1
    have a2 : zN (zS (zz kd s)) = true := a2
    obtain ⟨q, h1, h2, _⟩ := h.st hlt
    have k2 := zN_2 a2 ⟨q, h1⟩
    have n5 : zS (zz kd s) ≠ 5 := fun z => by rw [z] at a2; exact absurd a2 (by decide)
    have hf := hF s hlt
    unfold fX at hf
    rw [if_neg n5, if_neg (fun z => z k2), if_pos a2] at hf
    have ha : (toL kd s).any (fun x => decide (vl x = vl s)) = true := by
      rw [List.any_eq_true]
      refine ⟨t, List.mem_filter.mpr ⟨List.mem_range.mpr z, (List.mem_filter.mp ht).2⟩, decide_eq_true e⟩
    rw [if_pos ha] at hf
    cases hf
  rcases Nat.lt_trichotomy t s with z | z | z
  · exact absurd z (key ht hs e)
  · exact z
  · exact absurd z (key hs ht e.symm)
theorem told_m {kd : Nat → Nat} {N t : Nat} (ht : t < N) (hs : zS (zz kd t) = 1 ∨ zS (zz kd t) = 3 ∨ zS (zz kd t) = 7) : t ∈ toL kd N := List.mem_filter.mpr ⟨List.mem_range.mpr ht, by
  show zN (zS (zz kd t)) = true
  rcases hs with e | e | e <;> rw [e] <;> rfl⟩
/-- names in circuits are told -/
theorem named_c {kd : Nat → Nat} {vl : Nat → Int64} {N : Nat} (h : TXT kd N) (hF : ∀ i, i < N → fX kd vl N i = 0) {i : Nat} (hi : i < N) (h10 : zS (zz kd i) = 10 ∨ zS (zz kd i) = 11) (hk : kd i = 2) : ∃ v, zVr kd vl (toL kd N) (vl i) = some v := by
  have hf := hF i hi
  unfold fX at hf
  rw [if_neg (by omega), if_neg (fun z => z hk), if_neg (show ¬ zN (zS (zz kd i)) = true from fun z => by rcases h10 with e | e <;> rw [e] at z <;> exact absurd z (by decide)), if_neg (by omega)] at hf
  cases hv : zVr kd vl (toL kd N) (vl i) with
  | none => rw [hv] at hf; cases hf
  | some v => exact ⟨v, rfl⟩
theorem green_c {kd : Nat → Nat} {vl : Nat → Int64} {N : Nat} (h : TXT kd N) (hF : ∀ i, i < N → fX kd vl N i = 0) {i : Nat} (hi : i < N) (h8 : zS (zz kd i) = 8) : ∃ t g, t < i ∧ zS (zz kd t) = 7 ∧ zT (zz kd t) = 9 ∧ vl t = vl i ∧ g = zL (zz kd t) ∧ g < zL (zz kd N) ∧ zG kd vl (toL kd i) (vl i) = some g ∧ zG kd vl (toL kd N) (vl i) = some g := by
  have hf := hF i hi
  have hk := (h.s8 hi h8).1
  unfold fX at hf
  rw [if_neg (by omega), if_neg (fun z => z hk), if_neg (show ¬ zN (zS (zz kd i)) = true from fun z => by rw [h8] at z; exact absurd z (by decide)), if_pos h8] at hf
  cases hv : zG kd vl (toL kd i) (vl i) with
  | none => rw [hv] at hf; cases hf
  | some g =>
    obtain ⟨t, a1, a2, a3, a4, a5, a6⟩ := zG_c h (show i ≤ N by omega) hv
    refine ⟨t, g, a1, a2, a3, a4, a5, a6, rfl, ?_⟩
    obtain ⟨M, eM⟩ := toL_pre kd (show i ≤ N by omega)
    unfold zG at hv ⊢
    rw [eM, List.find?_append]
    cases hf2 : (toL kd i).find? (zGp kd vl (vl i)) with
    | none => rw [hf2] at hv; cases hv
    | some t2 => rw [hf2] at hv; exact hv
section TX3
variable {kd : Nat → Nat} {vl : Nat → Int64} {N : Nat} {st5 : Nat → Bool}
theorem own_c (h : TXT kd N) {i : Nat} (hi : i < N) (hc : zC (zz kd i) = true) : ownZ (zz kd i) < 11 ∧ cirB (zR (zz kd N)) (zL (zz kd N)) (ownZ (zz kd i)) = true := by
  obtain ⟨c1, c2⟩ := zC_S hc
  obtain ⟨_, _, _, _, b5, b6, _, _, _, _, _, _, _, _, w15, _⟩ := h.w (show i ≤ N by omega)
  have w15 := w15 (by omega)
  obtain ⟨p1, p2, _⟩ := (h.p (show i ≤ N by omega)).2.1 (Or.inr (by omega))
  have m := h.mo (show i ≤ N by omega) (Nat.le_refl N)
  unfold ownZ cirB
  by_cases t6 : zT (zz kd i) = 6
  · have := p1 t6
    rw [if_pos t6, if_pos (by omega), decide_eq_true_eq]
    omega
  · have := p2 (by omega)
    rw [if_neg t6, if_neg (by omega), decide_eq_true_eq]
    omega
theorem th_c (h : TXT kd N) (hF : ∀ i, i < N → fX kd vl N i = 0) {i : Nat} (hi : i < N) (h10 : zS (zz kd i) = 10 ∨ zS (zz kd i) = 11) (hk : kd i = 2) : thT kd vl N i < zI (zz kd N) ∨ (10 ≤ thT kd vl N i ∧ thT kd vl N i < 10 + zR (zz kd N)) := by
  obtain ⟨v, hv⟩ := named_c h hF hi h10 hk
  have h6 := (h.w (Nat.le_refl N)).2.2.2.2.1
  unfold thT
  rw [hv]
  show (if v < 6 then 10 + v else v - 6) < _ ∨ _
  rcases zVr_c h hv with ⟨t, a1, a2, a3, a4, a5⟩ | ⟨t, a1, a2, a3, a4, a5⟩
  · rw [if_pos (by omega)]
    right
    show 10 ≤ (if v < 6 then 10 + v else v - 6) ∧ (if v < 6 then 10 + v else v - 6) < _
    rw [if_pos (by omega)]
    omega
  · rw [if_neg (by omega)]
    left
    omega
theorem WD_mk (h : TXT kd N) (hF : ∀ i, i < N → fX kd vl N i = 0) (hv3 : ∀ i, kd i = 3 → ∃ q, q < 10000 ∧ vl i = lN q) (hv2 : ∀ i, kd i = 2 → 0 < vl i) : WD (mkD kd vl N st5) := by
  obtain ⟨_, _, _, b1, b2, b3, b4, b5, _⟩ := h.w (Nat.le_refl N)
  have ne0 : ∀ i, kd i = 2 → vl i ≠ 0 := fun i hk e => by
    have := hv2 i hk
    rw [e] at this
    exact absurd this (by decide)
  refine ⟨b1, b5, b2, b3, b4, fun k hk => ?_, fun r hr => ?_, fun k hk => ?_, fun c a b hab => ?_, fun c hc hcir s hs => ?_, fun k hk => ?_, fun k hk => ?_, fun k hk => ?_⟩
  · have hk : k < zK (zz kd N) := hk
    obtain ⟨i, _, hi, c1, c2, c3, c4⟩ := exK h (i0 := 0) (m := N) (k := k) (by omega) (Nat.zero_le _) (by rw [Nat.zero_add]; exact hk)
    rw [Nat.zero_add] at hi
    show ownZ (zz kd (tkK kd N k)) < 11 ∧ cirB (zR (zz kd N)) (zL (zz kd N)) (ownZ (zz kd (tkK kd N k))) = true ∧ (thT kd vl N (tkK kd N k) < zI (zz kd N) ∨ (10 ≤ thT kd vl N (tkK kd N k) ∧ thT kd vl N (tkK kd N k) < 10 + zR (zz kd N)))
    rw [c4]
    obtain ⟨d1, d2⟩ := own_c h hi c1
    exact ⟨d1, d2, th_c h hF hi (zC_S c1).1 c2⟩
  · show slT kd vl N r < 10
    by_cases hex : ∃ i, i < N ∧ zS (zz kd i) = 5 ∧ zR (zz kd i) = r + 1
    · obtain ⟨i, c1, c2, c3⟩ := hex
      rw [slT_c h c1 c2 c3]
      obtain ⟨q, hq, eq⟩ := hv3 i (h.s5 c1 c2).1
      have hf := hF i c1
      unfold fX at hf
      rw [if_pos c2] at hf
      split at hf
      · cases hf
      · next h9 =>
        rw [eq, Int64.lt_iff_toInt_lt, lN_toInt (by omega)] at h9
        rw [eq, lN_toInt (by omega)]
        have : (9 : Int64).toInt = 9 := by decide
        omega
    · rw [slT_0 (fun i c1 c2 c3 => hex ⟨i, c1, c2, c3⟩)]
      decide
  · have hk : k < zV (zz kd N) := hk
    obtain ⟨i, hi, c1, c2, c3, c4, _⟩ := exX h hk
    obtain ⟨t, g, d1, d2, d3, d4, d5, d6, d7, d8⟩ := green_c h hF (show i < N by omega) c1
    show (zG kd vl (toL kd N) (vl (tkX kd N k))).getD 0 < zL (zz kd N) ∧ decide (zT (zz kd (tkL kd N ((zG kd vl (toL kd N) (vl (tkX kd N k))).getD 0))) = 9) = true
    rw [c4, d8]
    refine ⟨d6, ?_⟩
    show decide (zT (zz kd (tkL kd N g)) = 9) = true
    rw [d5, tkL_c h (by omega) d2]
    exact decide_eq_true d3
  · show (cirB (zR (zz kd N)) (zL (zz kd N)) c && CTk (sqL kd (tkC kd N c) (cLc kd N (tkC kd N c))) (zK (zz kd (tkC kd N c))) a) = (cirB (zR (zz kd N)) (zL (zz kd N)) c && CTk (sqL kd (tkC kd N c) (cLc kd N (tkC kd N c))) (zK (zz kd (tkC kd N c))) b)
    cases hcir : cirB (zR (zz kd N)) (zL (zz kd N)) c with
    | false => rfl
    | true =>
      rw [Bool.true_and, Bool.true_and]
      obtain ⟨i, e1, e2, e3⟩ := h.ex13 hcir
      have et : tkC kd N c = i + 1 := by rw [← e3]; exact tkC_c h e1 e2
      obtain ⟨_, q2, q3, q4, q5, q6, _, q8, q9⟩ := h.q13 e1 e2
      rw [et]
      obtain ⟨s1, s2, s3, s4, s5, s6⟩ := seg_c h (show i + 1 ≤ N by omega) q2 q8
      refine CTk_congr (fun k k1 k2 => hab k ?_ ?_)
      · have := (s5 _ (Nat.le_refl _)).2.2.2.2.2.2
        rw [if_neg (by omega)] at this
        have m := (h.mo (show i + 1 + cLc kd N (i + 1) ≤ N by omega) (Nat.le_refl N)).2.2.2.2
        show k < zK (zz kd N)
        omega
      · have := (s5 _ (Nat.le_refl _)).2.2.2.2.2.2
        rw [if_neg (by omega)] at this
        obtain ⟨j, j1, j2, j3, j4, j5, j6⟩ := exK h (i0 := i + 1) (m := cLc kd N (i + 1)) (k := k) (by omega) k1 (by omega)
        show ownZ (zz kd (tkK kd N k)) = c
        rw [j6]
        obtain ⟨x, rfl⟩ := Nat.exists_eq_add_of_le j1
        obtain ⟨y1, _, y3, y4, _⟩ := s5 x (by omega)
        rw [← e3]
        unfold ownZ
        rw [y1, y3, y4, q3, q4, q5]
  · have hcir : cirB (zR (zz kd N)) (zL (zz kd N)) c = true := hcir
    obtain ⟨i, e1, e2, e3⟩ := h.ex13 hcir
    have et : tkC kd N c = i + 1 := by rw [← e3]; exact tkC_c h e1 e2
    obtain ⟨_, q2, q3, q4, q5, q6, _, q8, q9⟩ := h.q13 e1 e2
    obtain ⟨s1, s2, s3, s4, s5, s6⟩ := seg_c h (show i + 1 ≤ N by omega) q2 q8
    have hs : s ∈ sqL (sgT kd vl) (tkC kd N c) (cLc kd N (tkC kd N c)) := hs
    rw [et] at hs
    obtain ⟨x, x1, x2, rfl⟩ := sqL_mem hs
    obtain ⟨j, rfl⟩ := Nat.exists_eq_add_of_le x1
    have kk := s6 j (by omega)
    unfold sgT
    by_cases k2 : kd (i + 1 + j) = 2
    · rw [if_pos k2]
      right
      refine ⟨hv2 _ k2, ?_⟩
      obtain ⟨s, h1, h2, _, _⟩ := h.st (show i + 1 + j < N by omega)
      have h10 := (s5 j (by omega)).2.2.2.2.2.1
      have hz := zfr h2 h10 h1
      obtain ⟨v, hv⟩ := named_c h hF (show i + 1 + j < N by omega) (by omega) k2
      rcases zVr_c h hv with ⟨t, a1, a2, a3, a4, a5⟩ | ⟨t, a1, a2, a3, a4, a5⟩
      · left
        exact ⟨v, a5, by show vl (tkR kd N v) = _; rw [a4, tkR_c h a1 a2]; exact a3⟩
      · right
        refine ⟨zI (zz kd t), by show _ < zI (zz kd N); omega, ?_⟩
        show vl (tkI kd N (zI (zz kd t))) = _
        rw [tkI_c h a1 a2]
        exact a3
    · rw [if_neg k2]
      left
      rcases kk with z | z | z | z | z | z
      · exact absurd z k2
      · rw [z]; exact Or.inr (Or.inr (Or.inl (by decide)))
      · rw [z]; exact Or.inr (Or.inr (Or.inr (Or.inl (by decide))))
      · rw [z]; exact Or.inr (Or.inr (Or.inr (Or.inr (by decide))))
      · rw [z]; exact Or.inl (by decide)
      · rw [z]; exact Or.inr (Or.inl (by decide))
  · obtain ⟨i, c1, c2, c3, c4, c5⟩ := exI h hk
    show vl (tkI kd N k) ≠ 0
    rw [c5]
    exact ne0 i c3
  · obtain ⟨i, c1, c2, c3, c4, c5⟩ := exR h hk
    show vl (tkR kd N k) ≠ 0
    rw [c5]
    exact ne0 i c3
  · obtain ⟨i, c1, c2, c3, c4, c5⟩ := exL h hk
    show vl (tkL kd N k) ≠ 0
    rw [c5]
    exact ne0 i c3
/-- x's code of a circuit's token -/
theorem code_c (h : TXT kd N) (hF : ∀ i, i < N → fX kd vl N i = 0) (hv2 : ∀ i, kd i = 2 → 0 < vl i) {i : Nat} (hi : i < N) (h10 : 10 ≤ zS (zz kd i)) (hk : kd i ≠ 12) : cfJ kd vl N N i = nI (cdF (mkD kd vl N st5) (sgT kd vl i)) := by
  obtain ⟨s, h1, h2, _, _⟩ := h.st hi
  have hz := zfr h2 h10 h1
  unfold sgT
  by_cases k2 : kd i = 2
  · have hq : zQ kd i = true := by
      unfold zQ
      rw [decide_eq_true k2, Bool.true_and, Bool.or_eq_true, decide_eq_true_eq, decide_eq_true_eq]
      omega
    obtain ⟨v, hv⟩ := named_c h hF hi (by omega) k2
    unfold cfJ
    rw [if_pos ⟨hi, hq⟩, if_pos k2, hv, cdF_nm (hv2 i k2)]
    show nI v = _
    congr 1
    unfold nmF
    rcases zVr_c h hv with ⟨t, a1, a2, a3, a4, a5⟩ | ⟨t, a1, a2, a3, a4, a5⟩
    · have hex : ∃ r, r < dR (mkD kd vl N st5) ∧ dnR (mkD kd vl N st5) r = vl i := ⟨v, a5, by show vl (tkR kd N v) = _; rw [a4, tkR_c h a1 a2]; exact a3⟩
      cases hf : (List.range (dR (mkD kd vl N st5))).find? (fun r => decide (dnR (mkD kd vl N st5) r = vl i)) with
      | none =>
        obtain ⟨r, r1, r2⟩ := hex
        rw [List.find?_eq_none] at hf
        exact absurd (decide_eq_true r2) (hf r (List.mem_range.mpr r1))
      | some r =>
        show v = r
        have b0 := List.find?_some hf
        have b1 := of_decide_eq_true b0
        have b2 : r < zR (zz kd N) := List.mem_range.mp (List.mem_of_find?_eq_some hf)
        obtain ⟨t2, d1, d2, d3, d4, d5⟩ := exR h b2
        have b1 : vl (tkR kd N r) = vl i := b1
        rw [d5] at b1
        have := told_un h hF (told_m a1 (Or.inr (Or.inl a2))) (told_m d1 (Or.inr (Or.inl d2))) (a3.trans b1.symm)
        rw [this] at a4
        omega
    · cases hf : (List.range (dR (mkD kd vl N st5))).find? (fun r => decide (dnR (mkD kd vl N st5) r = vl i)) with
      | some r =>
        exfalso
        have b0 := List.find?_some hf
        have b1 := of_decide_eq_true b0
        have b2 : r < zR (zz kd N) := List.mem_range.mp (List.mem_of_find?_eq_some hf)
        obtain ⟨t2, d1, d2, d3, d4, d5⟩ := exR h b2
        have b1 : vl (tkR kd N r) = vl i := b1
        rw [d5] at b1
        have := told_un h hF (told_m a1 (Or.inl a2)) (told_m d1 (Or.inr (Or.inl d2))) (a3.trans b1.symm)
        rw [this] at a2
        omega
      | none =>
        have hex : ∃ r, r < dI (mkD kd vl N st5) ∧ dnI (mkD kd vl N st5) r = vl i := ⟨zI (zz kd t), by show _ < zI (zz kd N); omega, by show vl (tkI kd N (zI (zz kd t))) = _; rw [tkI_c h a1 a2]; exact a3⟩
        cases hg : (List.range (dI (mkD kd vl N st5))).find? (fun r => decide (dnI (mkD kd vl N st5) r = vl i)) with
        | none =>
          obtain ⟨r, r1, r2⟩ := hex
          rw [List.find?_eq_none] at hg
          exact absurd (decide_eq_true r2) (hg r (List.mem_range.mpr r1))
        | some r =>
          show v = 6 + r
          have b0 := List.find?_some hg
          have b1 := of_decide_eq_true b0
          have b2 : r < zI (zz kd N) := List.mem_range.mp (List.mem_of_find?_eq_some hg)
          obtain ⟨t2, d1, d2, d3, d4, d5⟩ := exI h b2
          have b1 : vl (tkI kd N r) = vl i := b1
          rw [d5] at b1
          have := told_un h hF (told_m a1 (Or.inl a2)) (told_m d1 (Or.inl d2)) (a3.trans b1.symm)
          rw [this] at a4
          omega
  · unfold cfJ
    rw [if_neg (fun z => by
      have z2 := z.2
      unfold zQ at z2
      rw [decide_eq_false k2, Bool.false_and] at z2
      cases z2), if_neg k2]
    rcases (show kd i = 14 ∨ kd i = 15 ∨ kd i = 16 ∨ kd i = 17 ∨ kd i = 18 by omega) with z | z | z | z | z <;> rw [z] <;> rfl
end TX3
