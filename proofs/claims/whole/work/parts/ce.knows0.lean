/-! what knows works out, pure: things, the least fault, the nevers' codes -/
/-- the thing that a name is of: the model's way and x's -/
theorem th_same {kd : Nat → Nat} {vl : Nat → Int64} {N : Nat} {nmI nmR : Nat → Int64} (h : TXT kd N) (n1 : ∀ i, i < N → zS (zz kd i) = 1 → nmI (zI (zz kd i)) = vl i) (n2 : ∀ i, i < N → zS (zz kd i) = 3 → nmR (zR (zz kd i)) = vl i) (x : Int64) : (thF nmI nmR (zI (zz kd N)) (zR (zz kd N)) x = -1 ↔ zVr kd vl (toL kd N) x = none) ∧ (thF nmI nmR (zI (zz kd N)) (zR (zz kd N)) x = -1 ∨ ∃ k, k < 16 ∧ thF nmI nmR (zI (zz kd N)) (zR (zz kd N)) x = nI k) ∧ ((∀ i, i < N → eXz kd vl i = 0) → ∀ v, zVr kd vl (toL kd N) x = some v → thF nmI nmR (zI (zz kd N)) (zR (zz kd N)) x = nI (thV (some v))) := by
  obtain ⟨_, _, _, w4, w5, _⟩ := h.w (Nat.le_refl N)
  have nm1 : ∀ k, k < 100 → ¬ nI k = -1 := by decide
  have e10 : ∀ k, (10 : Int32) + nI k = nI (10 + k) := fun k => by rw [show (10 : Int32) = nI 10 from rfl, nI_add]
  have hitI : ∀ {i}, i < N → zS (zz kd i) = 1 → vl i = x → zVr kd vl (toL kd N) x ≠ none := fun {i} hi hs e hz => by
    obtain ⟨_, c⟩ := told_c h (told_m hi (Or.inl hs))
    unfold zVr at hz
    have hf : (toL kd N).find? (zVp kd vl x) = none := by
      cases hf : (toL kd N).find? (zVp kd vl x) with
      | none => rfl
      | some y => rw [hf] at hz; cases hz
    refine List.find?_eq_none.mp hf i (told_m hi (Or.inl hs)) ?_
    have hT : zT (zz kd i) = 4 ∨ zT (zz kd i) = 5 := by
      rcases c with c | c | c
      · exact c.2.1
      · omega
      · omega
    unfold zVp
    rw [decide_eq_true e]
    rcases hT with z | z <;> rw [z] <;> rfl
  have hitR : ∀ {i}, i < N → zS (zz kd i) = 3 → vl i = x → zVr kd vl (toL kd N) x ≠ none := fun {i} hi hs e hz => by
    obtain ⟨_, c⟩ := told_c h (told_m hi (Or.inr (Or.inl hs)))
    unfold zVr at hz
    have hf : (toL kd N).find? (zVp kd vl x) = none := by
      cases hf : (toL kd N).find? (zVp kd vl x) with
      | none => rfl
      | some y => rw [hf] at hz; cases hz
    refine List.find?_eq_none.mp hf i (told_m hi (Or.inr (Or.inl hs))) ?_
    have hT : zT (zz kd i) = 6 := by
      rcases c with c | c | c
      · omega
      · exact c.2.1
      · omega
    unfold zVp
    rw [decide_eq_true e, hT]
    rfl
  unfold thF
  rcases fdN_c (nm := nmI) (x := x) (zI (zz kd N)) (by omega) with ⟨q, q2⟩ | ⟨k, k1, k2, k3, _⟩
  · rw [if_pos q]
    rcases fdN_c (nm := nmR) (x := x) (zR (zz kd N)) (by omega) with ⟨r, r2⟩ | ⟨k, k1, k2, k3, _⟩
    · rw [if_pos r]
      have en : zVr kd vl (toL kd N) x = none := by
        cases hz : zVr kd vl (toL kd N) x with
        | none => rfl
        | some v =>
          exfalso
          rcases zVr_c h hz with ⟨t, t1, t2, t3, t4, t5⟩ | ⟨t, t1, t2, t3, t4, t5⟩
          · exact r2 _ (by omega) ((n2 t t1 t2).trans t3)
          · exact q2 _ (by omega) ((n1 t t1 t2).trans t3)
      exact ⟨⟨fun _ => en, fun _ => rfl⟩, Or.inl rfl, fun _ v hv => by rw [en] at hv; cases hv⟩
    · rw [if_neg (by rw [k3]; exact nm1 k (by omega)), k3, e10]
      obtain ⟨i, i1, i2, i3, i4, _⟩ := exR h k1
      have ei : vl i = x := by rw [← n2 i i1 i2, i4]; exact k2
      refine ⟨⟨fun z => absurd z (nm1 _ (by omega)), fun z => absurd z (hitR i1 i2 ei)⟩, Or.inr ⟨10 + k, by omega, rfl⟩, fun hF v hv => ?_⟩
      rcases zVr_c h hv with ⟨t, t1, t2, t3, t4, t5⟩ | ⟨t, t1, t2, t3, t4, t5⟩
      · have e : i = t := told_unE h hF (told_m i1 (Or.inr (Or.inl i2))) (told_m t1 (Or.inr (Or.inl t2))) (ei.trans t3.symm)
        have : v = k := by rw [t4, ← e, i4]
        subst this
        show nI (10 + v) = nI (if v < 6 then 10 + v else v - 6)
        rw [if_pos (by omega)]
      · exact absurd ((n1 t t1 t2).trans t3) (q2 _ (by omega))
  · rw [if_neg (by rw [k3]; exact nm1 k (by omega)), k3]
    obtain ⟨i, i1, i2, i3, i4, _⟩ := exI h k1
    have ei : vl i = x := by rw [← n1 i i1 i2, i4]; exact k2
    refine ⟨⟨fun z => absurd z (nm1 _ (by omega)), fun z => absurd z (hitI i1 i2 ei)⟩, Or.inr ⟨k, by omega, rfl⟩, fun hF v hv => ?_⟩
    rcases zVr_c h hv with ⟨t, t1, t2, t3, t4, t5⟩ | ⟨t, t1, t2, t3, t4, t5⟩
    · have e : i = t := told_unE h hF (told_m i1 (Or.inl i2)) (told_m t1 (Or.inr (Or.inl t2))) (ei.trans t3.symm)
      rw [← e] at t2
      omega
    · have e : i = t := told_unE h hF (told_m i1 (Or.inl i2)) (told_m t1 (Or.inl t2)) (ei.trans t3.symm)
      have : v = 6 + k := by rw [t4, ← e, i4]
      subst this
      show nI k = nI (if 6 + k < 6 then 10 + (6 + k) else 6 + k - 6)
      rw [if_neg (by omega), Nat.add_sub_cancel_left]
/-- the worst of tokens below N whose faults E tells -/
def WsE (N : Nat) (E : Nat → Nat) (pl : Nat → Nat) (wo : Nat) (wp : Int32) : Prop := (wo = 0 ∧ ∀ i, i < N → E i = 0) ∨ (∃ i, i < N ∧ E i ≠ 0 ∧ wo = E i ∧ wp = nI (pl i) ∧ ∀ j, j < i → E j = 0)
theorem WsE.same {N wo : Nat} {E E' pl : Nat → Nat} {wp : Int32} (W : WsE N E pl wo wp) (h : ∀ i, i < N → E' i = E i) : WsE N E' pl wo wp := by
  rcases W with ⟨a, b⟩ | ⟨i, a, b, c, e, f⟩
  · exact Or.inl ⟨a, fun i hi => (h i hi).trans (b i hi)⟩
  · exact Or.inr ⟨i, a, by rw [h i a]; exact b, by rw [h i a]; exact c, e, fun j hj => (h j (by omega)).trans (f j hj)⟩
theorem WsE.c {N i0 wo : Nat} {E pl : Nat → Nat} {wp : Int32} (W : WsE N E pl wo wp) (hE : ∀ i, E i ≤ 5) (h0 : E i0 = 0) (hp : ∀ i, i < N → pl i ≤ 2000) (hm : ∀ i j, i < j → j < N → pl i < pl j) (hi : i0 < N) : wo ≤ 5 ∧ (wo = 0 ∨ ∃ q, wp = nI q ∧ q ≤ 2000 ∧ q ≠ pl i0) := by
  rcases W with ⟨a, b⟩ | ⟨i, a, b, c, e, f⟩
  · exact ⟨by omega, Or.inl a⟩
  · have := hE i
    refine ⟨by omega, Or.inr ⟨pl i, e, hp i a, fun z => ?_⟩⟩
    rcases Nat.lt_trichotomy i i0 with y | y | y
    · have := hm i i0 y hi; omega
    · rw [y] at b; exact b h0
    · have := hm i0 i y a; omega
theorem WsE.new {N i0 wo : Nat} {E E' pl : Nat → Nat} {wp : Int32} (W : WsE N E pl wo wp) (h : ∀ i, i < N → i ≠ i0 → E' i = E i) (h4 : E' i0 = 4) (hp : ∀ i, i < N → pl i ≤ 2000) (hm : ∀ i j, i < j → j < N → pl i < pl j) (hi : i0 < N) (hh : wo = 0 ∨ ∃ q, wp = nI q ∧ q ≤ 2000 ∧ pl i0 < q) : WsE N E' pl 4 (nI (pl i0)) := by
  refine Or.inr ⟨i0, hi, by rw [h4]; decide, h4.symm, rfl, fun j hj => ?_⟩
  rw [h j (by omega) (by omega)]
  rcases W with ⟨a, b⟩ | ⟨i, a, b, c, e, f⟩
  · exact b j (by omega)
  · rcases hh with z | ⟨q, z1, z2, z3⟩
    · omega
    · have hq : pl i = q := (nI_eq (by have := hp i a; omega) (by omega)).mp (e.symm.trans z1)
      refine f j ?_
      rcases Nat.lt_trichotomy i i0 with y | y | y
      · have := hm i i0 y hi; omega
      · rw [y] at hq; omega
      · omega
theorem WsE.old {N i0 wo : Nat} {E E' pl : Nat → Nat} {wp : Int32} (W : WsE N E pl wo wp) (h : ∀ i, i < N → i ≠ i0 → E' i = E i) (h0 : E i0 = 0) (hp : ∀ i, i < N → pl i ≤ 2000) (hm : ∀ i j, i < j → j < N → pl i < pl j) (hi : i0 < N) (hh : wo ≠ 0 ∧ ∃ q, wp = nI q ∧ q ≤ 2000 ∧ q < pl i0) : WsE N E' pl wo wp := by
  obtain ⟨z0, q, z1, z2, z3⟩ := hh
  rcases W with ⟨a, b⟩ | ⟨i, a, b, c, e, f⟩
  · exact absurd a z0
  · have hq : pl i = q := (nI_eq (by have := hp i a; omega) (by omega)).mp (e.symm.trans z1)
    have hlt : i < i0 := by
      rcases Nat.lt_trichotomy i i0 with y | y | y
      · exact y
      · rw [y] at hq; omega
      · have := hm i0 i y a; omega
    exact Or.inr ⟨i, a, by rw [h i a (by omega)]; exact b, by rw [h i a (by omega)]; exact c, e, fun j hj => (h j (by omega) (by omega)).trans (f j hj)⟩
/-- the faults known when k contacts and w names of nevers have been looked up -/
def eK (kd : Nat → Nat) (vl : Nat → Int64) (N k w i : Nat) : Nat := if (zC (zz kd i) = true ∧ kd i = 2 ∧ zK (zz kd i) < k) ∨ (wQ kd i = true ∧ wN kd i < w) then (if (zVr kd vl (toL kd N) (vl i)).isNone = true then 4 else 0) else eXz kd vl i
theorem eK_le (kd : Nat → Nat) (vl : Nat → Int64) (N k w i : Nat) : eK kd vl N k w i ≤ 5 := by
  unfold eK
  have := eX_le kd vl i
  repeat' split
  all_goals omega
theorem zQ_of {kd : Nat → Nat} {i : Nat} (h : zQ kd i = true) : kd i = 2 ∧ (zS (zz kd i) = 10 ∨ zS (zz kd i) = 11) := by
  unfold zQ at h
  rw [Bool.and_eq_true, Bool.or_eq_true, decide_eq_true_eq, decide_eq_true_eq, decide_eq_true_eq] at h
  exact h
theorem wQ_of {kd : Nat → Nat} {i : Nat} (h : wQ kd i = true) : kd i = 2 ∧ (zS (zz kd i) = 10 ∨ zS (zz kd i) = 11) ∧ zT (zz kd i) = 10 := by
  unfold wQ at h
  rw [Bool.and_eq_true, decide_eq_true_eq] at h
  obtain ⟨a, b⟩ := zQ_of h.1
  exact ⟨a, b, h.2⟩
theorem wQ_mk {kd : Nat → Nat} {i : Nat} (hk : kd i = 2) (hs : zS (zz kd i) = 10 ∨ zS (zz kd i) = 11) (hT : zT (zz kd i) = 10) : wQ kd i = true := by
  unfold wQ zQ
  rw [decide_eq_true hk, Bool.true_and, decide_eq_true hT, Bool.and_true]
  rcases hs with z | z
  · rw [decide_eq_true z]; rfl
  · rw [decide_eq_true z, Bool.or_true]
theorem eK_0 {kd : Nat → Nat} {vl : Nat → Int64} {N i : Nat} : eK kd vl N 0 0 i = eXz kd vl i := by
  unfold eK
  rw [if_neg (by omega)]
theorem eK_kn {kd : Nat → Nat} {vl : Nat → Int64} {N k w i : Nat} (h : TXT kd N) (hi : i < N) (hc : zC (zz kd i) = true) (hk : kd i = 2) (e : zK (zz kd i) = k) : (eK kd vl N k w i = 0) ∧ (eK kd vl N (k + 1) w i = if (zVr kd vl (toL kd N) (vl i)).isNone = true then 4 else 0) ∧ ∀ j, j < N → j ≠ i → eK kd vl N (k + 1) w j = eK kd vl N k w j := by
  obtain ⟨c1, c2⟩ := zC_S hc
  have nw : wQ kd i = false := by
    unfold wQ
    rw [decide_eq_false c2, Bool.and_false]
  refine ⟨?_, ?_, fun j hj hne => ?_⟩
  · unfold eK
    rw [if_neg (fun z => z.elim (fun z => absurd z.2.2 (by omega)) (fun z => by rw [nw] at z; cases z.1))]
    exact eX_0 (by omega) (Or.inr (by omega))
  · unfold eK
    rw [if_pos (Or.inl ⟨hc, hk, by omega⟩)]
  · have : ((zC (zz kd j) = true ∧ kd j = 2 ∧ zK (zz kd j) < k + 1) ∨ (wQ kd j = true ∧ wN kd j < w)) ↔ ((zC (zz kd j) = true ∧ kd j = 2 ∧ zK (zz kd j) < k) ∨ (wQ kd j = true ∧ wN kd j < w)) := by
      refine ⟨fun z => z.imp (fun ⟨a, b, c⟩ => ⟨a, b, ?_⟩) id, fun z => z.imp (fun ⟨a, b, c⟩ => ⟨a, b, by omega⟩) id⟩
      have : zK (zz kd j) ≠ k := fun y => hne ((tkK_c h hj a b).symm.trans (by rw [y, ← e]; exact tkK_c h hi hc hk))
      omega
    unfold eK
    by_cases c : (zC (zz kd j) = true ∧ kd j = 2 ∧ zK (zz kd j) < k) ∨ (wQ kd j = true ∧ wN kd j < w)
    · rw [if_pos (this.mpr c), if_pos c]
    · rw [if_neg (fun z => c (this.mp z)), if_neg c]
theorem wN_un {kd : Nat → Nat} {i j : Nat} (hi : wQ kd i = true) (hj : wQ kd j = true) (e : wN kd i = wN kd j) : i = j := by
  rcases Nat.lt_trichotomy i j with z | z | z
  · have := wN_lt hi z; omega
  · exact z
  · have := wN_lt hj z; omega
theorem eK_wn {kd : Nat → Nat} {vl : Nat → Int64} {N k w i : Nat} (hq : wQ kd i = true) (e : wN kd i = w) : (eK kd vl N k w i = 0) ∧ (eK kd vl N k (w + 1) i = if (zVr kd vl (toL kd N) (vl i)).isNone = true then 4 else 0) ∧ ∀ j, j ≠ i → eK kd vl N k (w + 1) j = eK kd vl N k w j := by
  obtain ⟨c1, c2, c3⟩ := wQ_of hq
  have nc : ¬ zC (zz kd i) = true := fun z => (zC_S z).2 c3
  refine ⟨?_, ?_, fun j hne => ?_⟩
  · unfold eK
    rw [if_neg (fun z => z.elim (fun z => nc z.1) (fun z => absurd z.2 (by omega)))]
    exact eX_0 (by omega) (Or.inr (by omega))
  · unfold eK
    rw [if_pos (Or.inr ⟨hq, by omega⟩)]
  · have : ((zC (zz kd j) = true ∧ kd j = 2 ∧ zK (zz kd j) < k) ∨ (wQ kd j = true ∧ wN kd j < w + 1)) ↔ ((zC (zz kd j) = true ∧ kd j = 2 ∧ zK (zz kd j) < k) ∨ (wQ kd j = true ∧ wN kd j < w)) := by
      refine ⟨fun z => z.imp id (fun ⟨a, b⟩ => ⟨a, ?_⟩), fun z => z.imp id (fun ⟨a, b⟩ => ⟨a, by omega⟩)⟩
      have : wN kd j ≠ w := fun y => hne (wN_un a hq (by omega))
      omega
    unfold eK
    by_cases c : (zC (zz kd j) = true ∧ kd j = 2 ∧ zK (zz kd j) < k) ∨ (wQ kd j = true ∧ wN kd j < w)
    · rw [if_pos (this.mpr c), if_pos c]
    · rw [if_neg (fun z => c (this.mp z)), if_neg c]
/-- when all have been looked up, the faults are those of the text -/
theorem eK_all {kd : Nat → Nat} {vl : Nat → Int64} {N i : Nat} (h : TXT kd N) (hi : i < N) : fX kd vl N i = eK kd vl N (zK (zz kd N)) (wN kd N) i := by
  obtain ⟨s, hb, hs, _⟩ := h.st hi
  unfold eK
  by_cases c : zQ kd i = true
  · obtain ⟨k2, h10⟩ := zQ_of c
    rw [if_pos (by
      by_cases cT : zT (zz kd i) = 10
      · have q := wQ_mk k2 h10 cT
        exact Or.inr ⟨q, wN_lt q hi⟩
      · have q := zC_of h10 cT
        exact Or.inl ⟨q, k2, zK_lt h.1 h.2.1 hi q k2⟩)]
    unfold fX
    rw [if_neg (by omega), if_neg (fun z => z k2), if_neg (by
      unfold zN
      rw [decide_eq_false (p := zS (zz kd i) = 1) (by omega), decide_eq_false (p := zS (zz kd i) = 3) (by omega), decide_eq_false (p := zS (zz kd i) = 7) (by omega)]
      decide), if_neg (by omega)]
  · have hno : ¬ ((zC (zz kd i) = true ∧ kd i = 2 ∧ zK (zz kd i) < zK (zz kd N)) ∨ (wQ kd i = true ∧ wN kd i < wN kd N)) := fun z => by
      rcases z with ⟨a, b, _⟩ | ⟨a, _⟩
      · refine c ?_
        unfold zQ
        rw [decide_eq_true b, Bool.true_and]
        rcases (zC_S a).1 with y | y
        · rw [decide_eq_true y]; rfl
        · rw [decide_eq_true y, Bool.or_true]
      · unfold wQ at a
        rw [Bool.and_eq_true] at a
        exact c a.1
    rw [if_neg hno]
    unfold fX eXz
    by_cases c5 : zS (zz kd i) = 5
    · rw [if_pos c5, if_pos c5]
    · rw [if_neg c5, if_neg c5]
      by_cases c2 : kd i ≠ 2
      · rw [if_pos c2, if_pos c2]
      · rw [if_neg c2, if_neg c2]
        have k2 : kd i = 2 := by omega
        by_cases cn : zN (zS (zz kd i)) = true
        · rw [if_pos cn, if_pos cn]
        · rw [if_neg cn, if_neg cn]
          by_cases c8 : zS (zz kd i) = 8
          · rw [if_pos c8, if_pos c8]
          · exfalso
            have q := zB_2 hs (by rw [k2] at hb; exact ⟨s, hb⟩)
            rcases q with q | q | q | q | q | q
            · rw [q] at cn; exact cn rfl
            · rw [q] at cn; exact cn rfl
            · rw [q] at cn; exact cn rfl
            · exact c8 q
            · refine c ?_
              unfold zQ
              rw [decide_eq_true k2, decide_eq_true q]; rfl
            · refine c ?_
              unfold zQ
              rw [decide_eq_true k2, decide_eq_true q, Bool.or_true]; rfl
/-- what a token adds to the codes -/
theorem cSt_app (s k i : Nat) (x : List Nat × List Nat) : ∃ e, (cSt s k i x).2 = x.2 ++ e ∧ ((e = [1000 + i] ∧ k = 2 ∧ 10 ≤ s) ∨ (¬ (k = 2 ∧ 10 ≤ s) ∧ ∀ y ∈ e, y = 50 ∨ y = 51)) := by
  unfold cSt
  by_cases c1 : s < 10
  · rw [if_pos c1]
    exact ⟨[], (List.append_nil _).symm, Or.inr ⟨by omega, fun y hy => by cases hy⟩⟩
  · rw [if_neg c1]
    by_cases c2 : k = 2
    · rw [if_pos c2]
      exact ⟨_, rfl, Or.inl ⟨rfl, c2, by omega⟩⟩
    · rw [if_neg c2]
      by_cases c3 : k = 14
      · rw [if_pos c3]
        exact ⟨[], (List.append_nil _).symm, Or.inr ⟨by omega, fun y hy => by cases hy⟩⟩
      · rw [if_neg c3]
        by_cases c4 : k = 17
        · rw [if_pos c4]
          exact ⟨[], (List.append_nil _).symm, Or.inr ⟨by omega, fun y hy => by cases hy⟩⟩
        · rw [if_neg c4]
          by_cases c5 : k = 15
          · rw [if_pos c5]
            exact ⟨_, rfl, Or.inr ⟨by omega, fun y hy => (gsA_l _ _).2 y hy⟩⟩
          · rw [if_neg c5]
            by_cases c6 : k = 16
            · rw [if_pos c6]
              exact ⟨_, rfl, Or.inr ⟨by omega, fun y hy => (gsA_l _ _).2 y hy⟩⟩
            · rw [if_neg c6]
              by_cases c7 : k = 18
              · rw [if_pos c7]
                exact ⟨_, rfl, Or.inr ⟨by omega, fun y hy => (gsA_l _ _).2 y hy⟩⟩
              · rw [if_neg c7]
                exact ⟨_, rfl, Or.inr ⟨by omega, fun y hy => (gsA_l _ _).2 y hy⟩⟩
theorem getD_l {a b : List Nat} {p : Nat} (h : p < a.length) : (a ++ b).getD p 0 = a.getD p 0 := by
  rw [List.getD_eq_getElem?_getD, List.getD_eq_getElem?_getD, List.getElem?_append_left h]
theorem cG_at {kd : Nat → Nat} : ∀ (t p : Nat), p < (cG kd t).2.length → ((cG kd t).2.getD p 0 = 50 ∨ (cG kd t).2.getD p 0 = 51) ∨ ∃ i, i < t ∧ (cG kd t).2.getD p 0 = 1000 + i ∧ kd i = 2 ∧ 10 ≤ zS (zz kd i) ∧ p = (cG kd i).2.length
  | 0, _, h => absurd h (Nat.not_lt_zero _)
  | t + 1, p, h => by
    obtain ⟨e, e1, e2⟩ := cSt_app (zS (zz kd t)) (kd t) t (cG kd t)
    have e1 : (cG kd (t + 1)).2 = (cG kd t).2 ++ e := e1
    rw [e1] at h ⊢
    by_cases c : p < (cG kd t).2.length
    · rw [getD_l c]
      rcases cG_at t p c with z | ⟨i, z1, z2⟩
      · exact Or.inl z
      · exact Or.inr ⟨i, by omega, z2⟩
    · rw [List.length_append] at h
      have hp : ((cG kd t).2 ++ e).getD p 0 ∈ e := by
        rw [List.getD_eq_getElem?_getD, List.getElem?_append_right (by omega), List.getElem?_eq_getElem (by omega)]
        exact List.getElem_mem _
      rcases e2 with ⟨rfl, k2, s10⟩ | ⟨_, hy⟩
      · right
        have h : p < (cG kd t).2.length + 1 := h
        exact ⟨t, Nat.lt_succ_self t, List.mem_singleton.mp hp, k2, s10, by omega⟩
      · exact Or.inl (hy _ hp)
theorem cG_of {kd : Nat → Nat} {i : Nat} (hk : kd i = 2) (hs : 10 ≤ zS (zz kd i)) : ∀ {t : Nat}, i < t → (cG kd i).2.length < (cG kd t).2.length ∧ (cG kd t).2.getD (cG kd i).2.length 0 = 1000 + i := fun {t} hit => by
  obtain ⟨m, rfl⟩ := Nat.exists_eq_add_of_lt hit
  induction m with
  | zero =>
    show _ < (cG kd (i + 1)).2.length ∧ (cG kd (i + 1)).2.getD _ 0 = _
    rw [cG_2 hs hk]
    refine ⟨?_, getD_last⟩
    show (cG kd i).2.length < ((cG kd i).2 ++ [1000 + i]).length
    rw [List.length_append]
    exact Nat.lt_succ_self _
  | succ m ih =>
    obtain ⟨i1, i2⟩ := ih (by omega)
    obtain ⟨e, e1, _⟩ := cSt_app (zS (zz kd (i + m + 1))) (kd (i + m + 1)) (i + m + 1) (cG kd (i + m + 1))
    have e1 : (cG kd (i + (m + 1) + 1)).2 = (cG kd (i + m + 1)).2 ++ e := e1
    rw [e1, List.length_append, getD_l i1]
    exact ⟨by omega, i2⟩
/-- a code's cell when w names of nevers have been looked up -/
def cvK (kd th : Nat → Nat) (w e : Nat) : Nat := if e < 1000 then e else if zT (zz kd (e - 1000)) = 10 then 60 + (decide (zS (zz kd (e - 1000)) = 11)).toNat + (if wN kd (e - 1000) < w then 2 * th (e - 1000) else 0) else zK (zz kd (e - 1000))
theorem cvK_0 {kd th : Nat → Nat} : cvK kd th 0 = cvB kd := funext (fun e => by
  unfold cvK cvB
  rw [if_neg (show ¬ wN kd (e - 1000) < 0 by omega), Nat.add_zero])
theorem cvK_s {kd th : Nat → Nat} (hkd : ∀ i, kd i < 19) {N w i p : Nat} (ha : ∀ j, j < N → zok kd j) (hq : wQ kd i = true) (hw : wN kd i = w) (hp : p < (cG kd N).2.length) (hne : p ≠ (cG kd i).2.length) : cvK kd th (w + 1) ((cG kd N).2.getD p 0) = cvK kd th w ((cG kd N).2.getD p 0) := by
  unfold cvK
  rcases cG_at N p hp with z | ⟨j, j1, j2, j3, j4, j5⟩
  · rw [if_pos (by omega), if_pos (by omega)]
  · rw [j2, if_neg (show ¬ 1000 + j < 1000 by omega), if_neg (show ¬ 1000 + j < 1000 by omega), Nat.add_sub_cancel_left]
    by_cases cT : zT (zz kd j) = 10
    · rw [if_pos cT, if_pos cT]
      have hne2 : wN kd j ≠ w := fun e => by
        obtain ⟨s, hb, hs, _⟩ := zst hkd ha j1
        have h13 : zS (zz kd j) = 10 ∨ zS (zz kd j) = 11 := by
          have := zB_2 hs (by rw [j3] at hb; exact ⟨s, hb⟩)
          omega
        have := wN_un (wQ_mk j3 h13 cT) hq (by omega)
        rw [this] at j5
        exact hne j5
      by_cases c : wN kd j < w
      · rw [if_pos (show wN kd j < w + 1 by omega), if_pos c]
      · rw [if_neg (show ¬ wN kd j < w + 1 by omega), if_neg c]
    · rw [if_neg cT, if_neg cT]
/-- each number has its name -/
theorem exW {kd : Nat → Nat} {N k : Nat} (hk : k < wN kd N) : ∃ i, i < N ∧ wQ kd i = true ∧ wN kd i = k := by
  obtain ⟨q, _, hq, e1, e2⟩ := z_reach (f := wN kd) (i := 0) (k := k) (m := N) (Nat.zero_le _) (by rw [Nat.zero_add]; exact hk) (fun q _ hq => by
    show wN kd q + _ ≤ wN kd q + 1
    split <;> omega)
  rw [Nat.zero_add] at hq
  refine ⟨q, hq, ?_, e1⟩
  have e2 : wN kd q + (if wQ kd q = true then 1 else 0) = k + 1 := e2
  by_cases c : wQ kd q = true
  · exact c
  · rw [if_neg c] at e2; omega
