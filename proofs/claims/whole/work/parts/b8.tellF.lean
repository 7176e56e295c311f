/-! what the tokens of a text that is told to its end say -/
theorem zto {q d k s : Nat} (hs : q < 13) (h : zB q d k = some s) : (s = 4 → q = 3 ∧ k = 2) ∧ (s = 5 → q = 4 ∧ k = 7) ∧ (s = 6 → (q = 5 ∧ k = 3) ∨ (q = 7 ∧ k = 2)) ∧ (s = 8 → q = 0 ∧ k = 10) ∧ (s = 9 → q = 8 ∧ k = 2) ∧ (s = 1 → q = 0 ∧ (k = 4 ∨ k = 5)) ∧ (s = 3 → q = 0 ∧ k = 6) ∧ (s = 7 → q = 0 ∧ (k = 8 ∨ k = 9)) ∧ (s = 2 → q = 1 ∧ k = 2) ∧ (s = 0 → k = 12) := by
  have hq : q = 0 ∨ q = 1 ∨ q = 2 ∨ q = 3 ∨ q = 4 ∨ q = 5 ∨ q = 6 ∨ q = 7 ∨ q = 8 ∨ q = 9 ∨ q = 10 ∨ q = 11 ∨ q = 12 := by omega
  rcases hq with rfl | rfl | rfl | rfl | rfl | rfl | rfl | rfl | rfl | rfl | rfl | rfl | rfl
  · have h : (if k = 4 ∨ k = 5 then some 1 else (if k = 6 then some 3 else (if k = 8 ∨ k = 9 then some 7 else (if k = 10 then some 8 else (none : Option Nat))))) = some s := h
    by_cases c1 : k = 4 ∨ k = 5
    · rw [if_pos c1] at h
      injection h with h
      exact ⟨fun e => by omega, fun e => by omega, fun e => by omega, fun e => by omega, fun e => by omega, fun e => by omega, fun e => by omega, fun e => by omega, fun e => by omega, fun e => by omega⟩
    · rw [if_neg c1] at h
      by_cases c1 : k = 6
      · rw [if_pos c1] at h
        injection h with h
        exact ⟨fun e => by omega, fun e => by omega, fun e => by omega, fun e => by omega, fun e => by omega, fun e => by omega, fun e => by omega, fun e => by omega, fun e => by omega, fun e => by omega⟩
      · rw [if_neg c1] at h
        by_cases c1 : k = 8 ∨ k = 9
        · rw [if_pos c1] at h
          injection h with h
          exact ⟨fun e => by omega, fun e => by omega, fun e => by omega, fun e => by omega, fun e => by omega, fun e => by omega, fun e => by omega, fun e => by omega, fun e => by omega, fun e => by omega⟩
        · rw [if_neg c1] at h
          by_cases c1 : k = 10
          · rw [if_pos c1] at h
            injection h with h
            exact ⟨fun e => by omega, fun e => by omega, fun e => by omega, fun e => by omega, fun e => by omega, fun e => by omega, fun e => by omega, fun e => by omega, fun e => by omega, fun e => by omega⟩
          · rw [if_neg c1] at h
            cases h
  · have h : (if k = 2 then some 2 else (none : Option Nat)) = some s := h
    by_cases c1 : k = 2
    · rw [if_pos c1] at h
      injection h with h
      exact ⟨fun e => by omega, fun e => by omega, fun e => by omega, fun e => by omega, fun e => by omega, fun e => by omega, fun e => by omega, fun e => by omega, fun e => by omega, fun e => by omega⟩
    · rw [if_neg c1] at h
      cases h
  · have h : (if k = 12 then some 0 else (none : Option Nat)) = some s := h
    by_cases c1 : k = 12
    · rw [if_pos c1] at h
      injection h with h
      exact ⟨fun e => by omega, fun e => by omega, fun e => by omega, fun e => by omega, fun e => by omega, fun e => by omega, fun e => by omega, fun e => by omega, fun e => by omega, fun e => by omega⟩
    · rw [if_neg c1] at h
      cases h
  · have h : (if k = 2 then some 4 else (none : Option Nat)) = some s := h
    by_cases c1 : k = 2
    · rw [if_pos c1] at h
      injection h with h
      exact ⟨fun e => by omega, fun e => by omega, fun e => by omega, fun e => by omega, fun e => by omega, fun e => by omega, fun e => by omega, fun e => by omega, fun e => by omega, fun e => by omega⟩
    · rw [if_neg c1] at h
      cases h
  · have h : (if k = 7 then some 5 else (if k = 13 then some 10 else (none : Option Nat))) = some s := h
    by_cases c1 : k = 7
    · rw [if_pos c1] at h
      injection h with h
      exact ⟨fun e => by omega, fun e => by omega, fun e => by omega, fun e => by omega, fun e => by omega, fun e => by omega, fun e => by omega, fun e => by omega, fun e => by omega, fun e => by omega⟩
    · rw [if_neg c1] at h
      by_cases c1 : k = 13
      · rw [if_pos c1] at h
        injection h with h
        exact ⟨fun e => by omega, fun e => by omega, fun e => by omega, fun e => by omega, fun e => by omega, fun e => by omega, fun e => by omega, fun e => by omega, fun e => by omega, fun e => by omega⟩
      · rw [if_neg c1] at h
        cases h
  · have h : (if k = 3 then some 6 else (none : Option Nat)) = some s := h
    by_cases c1 : k = 3
    · rw [if_pos c1] at h
      injection h with h
      exact ⟨fun e => by omega, fun e => by omega, fun e => by omega, fun e => by omega, fun e => by omega, fun e => by omega, fun e => by omega, fun e => by omega, fun e => by omega, fun e => by omega⟩
    · rw [if_neg c1] at h
      cases h
  · have h : (if k = 13 then some 10 else (none : Option Nat)) = some s := h
    by_cases c1 : k = 13
    · rw [if_pos c1] at h
      injection h with h
      exact ⟨fun e => by omega, fun e => by omega, fun e => by omega, fun e => by omega, fun e => by omega, fun e => by omega, fun e => by omega, fun e => by omega, fun e => by omega, fun e => by omega⟩
    · rw [if_neg c1] at h
      cases h
  · have h : (if k = 2 then some 6 else (none : Option Nat)) = some s := h
    by_cases c1 : k = 2
    · rw [if_pos c1] at h
      injection h with h
      exact ⟨fun e => by omega, fun e => by omega, fun e => by omega, fun e => by omega, fun e => by omega, fun e => by omega, fun e => by omega, fun e => by omega, fun e => by omega, fun e => by omega⟩
    · rw [if_neg c1] at h
      cases h
  · have h : (if k = 2 then some 9 else (none : Option Nat)) = some s := h
    by_cases c1 : k = 2
    · rw [if_pos c1] at h
      injection h with h
      exact ⟨fun e => by omega, fun e => by omega, fun e => by omega, fun e => by omega, fun e => by omega, fun e => by omega, fun e => by omega, fun e => by omega, fun e => by omega, fun e => by omega⟩
    · rw [if_neg c1] at h
      cases h
  · have h : (if k = 11 then some 10 else (none : Option Nat)) = some s := h
    by_cases c1 : k = 11
    · rw [if_pos c1] at h
      injection h with h
      exact ⟨fun e => by omega, fun e => by omega, fun e => by omega, fun e => by omega, fun e => by omega, fun e => by omega, fun e => by omega, fun e => by omega, fun e => by omega, fun e => by omega⟩
    · rw [if_neg c1] at h
      cases h
  · have h : (if k = 2 then some 12 else (if k = 14 then some 11 else (if k = 17 then some 10 else (none : Option Nat)))) = some s := h
    by_cases c1 : k = 2
    · rw [if_pos c1] at h
      injection h with h
      exact ⟨fun e => by omega, fun e => by omega, fun e => by omega, fun e => by omega, fun e => by omega, fun e => by omega, fun e => by omega, fun e => by omega, fun e => by omega, fun e => by omega⟩
    · rw [if_neg c1] at h
      by_cases c1 : k = 14
      · rw [if_pos c1] at h
        injection h with h
        exact ⟨fun e => by omega, fun e => by omega, fun e => by omega, fun e => by omega, fun e => by omega, fun e => by omega, fun e => by omega, fun e => by omega, fun e => by omega, fun e => by omega⟩
      · rw [if_neg c1] at h
        by_cases c1 : k = 17
        · rw [if_pos c1] at h
          injection h with h
          exact ⟨fun e => by omega, fun e => by omega, fun e => by omega, fun e => by omega, fun e => by omega, fun e => by omega, fun e => by omega, fun e => by omega, fun e => by omega, fun e => by omega⟩
        · rw [if_neg c1] at h
          cases h
  · have h : (if k = 2 then some 12 else (none : Option Nat)) = some s := h
    by_cases c1 : k = 2
    · rw [if_pos c1] at h
      injection h with h
      exact ⟨fun e => by omega, fun e => by omega, fun e => by omega, fun e => by omega, fun e => by omega, fun e => by omega, fun e => by omega, fun e => by omega, fun e => by omega, fun e => by omega⟩
    · rw [if_neg c1] at h
      cases h
  · have h : (if k = 15 ∨ k = 16 then some 10 else (if k = 18 ∧ 0 < d then some 12 else (if k = 12 ∧ d = 0 then some 0 else (none : Option Nat)))) = some s := h
    by_cases c1 : k = 15 ∨ k = 16
    · rw [if_pos c1] at h
      injection h with h
      exact ⟨fun e => by omega, fun e => by omega, fun e => by omega, fun e => by omega, fun e => by omega, fun e => by omega, fun e => by omega, fun e => by omega, fun e => by omega, fun e => by omega⟩
    · rw [if_neg c1] at h
      by_cases c1 : k = 18 ∧ 0 < d
      · rw [if_pos c1] at h
        injection h with h
        exact ⟨fun e => by omega, fun e => by omega, fun e => by omega, fun e => by omega, fun e => by omega, fun e => by omega, fun e => by omega, fun e => by omega, fun e => by omega, fun e => by omega⟩
      · rw [if_neg c1] at h
        by_cases c1 : k = 12 ∧ d = 0
        · rw [if_pos c1] at h
          injection h with h
          exact ⟨fun e => by omega, fun e => by omega, fun e => by omega, fun e => by omega, fun e => by omega, fun e => by omega, fun e => by omega, fun e => by omega, fun e => by omega, fun e => by omega⟩
        · rw [if_neg c1] at h
          cases h
theorem zfr {q d k s : Nat} (hs : q < 13) (h10 : 10 ≤ q) (h : zB q d k = some s) : ((q = 10 ∨ q = 11) ∧ k = 2 ∧ s = 12) ∨ (q = 10 ∧ k = 14 ∧ s = 11) ∨ (q = 10 ∧ k = 17 ∧ s = 10) ∨ (q = 12 ∧ (k = 15 ∨ k = 16) ∧ s = 10) ∨ (q = 12 ∧ k = 18 ∧ 0 < d ∧ s = 12) ∨ (q = 12 ∧ k = 12 ∧ d = 0 ∧ s = 0) := by
  have hq : q = 10 ∨ q = 11 ∨ q = 12 := by omega
  rcases hq with rfl | rfl | rfl
  · have h : (if k = 2 then some 12 else (if k = 14 then some 11 else (if k = 17 then some 10 else (none : Option Nat)))) = some s := h
    by_cases c1 : k = 2
    · rw [if_pos c1] at h
      injection h with h
      omega
    · rw [if_neg c1] at h
      by_cases c1 : k = 14
      · rw [if_pos c1] at h
        injection h with h
        omega
      · rw [if_neg c1] at h
        by_cases c1 : k = 17
        · rw [if_pos c1] at h
          injection h with h
          omega
        · rw [if_neg c1] at h
          cases h
  · have h : (if k = 2 then some 12 else (none : Option Nat)) = some s := h
    by_cases c1 : k = 2
    · rw [if_pos c1] at h
      injection h with h
      omega
    · rw [if_neg c1] at h
      cases h
  · have h : (if k = 15 ∨ k = 16 then some 10 else (if k = 18 ∧ 0 < d then some 12 else (if k = 12 ∧ d = 0 then some 0 else (none : Option Nat)))) = some s := h
    by_cases c1 : k = 15 ∨ k = 16
    · rw [if_pos c1] at h
      injection h with h
      omega
    · rw [if_neg c1] at h
      by_cases c1 : k = 18 ∧ 0 < d
      · rw [if_pos c1] at h
        injection h with h
        omega
      · rw [if_neg c1] at h
        by_cases c1 : k = 12 ∧ d = 0
        · rw [if_pos c1] at h
          injection h with h
          omega
        · rw [if_neg c1] at h
          cases h
theorem zA_S (z : ZT) (k s : Nat) : zS (zA z k s) = s := by
  unfold zA
  repeat' split
  all_goals rfl
theorem zA_D {z : ZT} {k s : Nat} (h0 : zS z ≠ 0) : zD (zA z k s) = if k = 17 then zD z + 1 else if k = 18 then zD z - 1 else zD z := by
  unfold zA
  rw [if_neg h0]
  by_cases c2 : k = 2
  · subst c2
    rw [if_pos rfl, if_neg (show ¬ (2 : Nat) = 17 by decide), if_neg (show ¬ (2 : Nat) = 18 by decide)]
    repeat' split
    all_goals rfl
  · rw [if_neg c2]
    repeat' split
    all_goals first | rfl | (exfalso; omega)
theorem zA_D0 {z : ZT} {k s : Nat} (h0 : zS z = 0) : zD (zA z k s) = zD z := by
  unfold zA
  rw [if_pos h0]
  rfl
theorem zA_T (z : ZT) (k s : Nat) : zT (zA z k s) = if zS z = 0 then k else zT z := by
  unfold zA
  by_cases c : zS z = 0
  · rw [if_pos c, if_pos c]; rfl
  · rw [if_neg c, if_neg c]
    repeat' split
    all_goals rfl
theorem zA_I (z : ZT) (k s : Nat) : zI (zA z k s) = if zS z = 1 ∧ k = 2 then zI z + 1 else zI z := by
  by_cases hc : zS z = 1 ∧ k = 2
  · rw [if_pos hc]
    unfold zA
    rw [if_neg (show ¬ zS z = 0 by omega), if_pos hc.2, if_pos hc.1]
    rfl
  · rw [if_neg hc]
    unfold zA
    by_cases c0 : zS z = 0
    · rw [if_pos c0]; rfl
    · rw [if_neg c0]
      by_cases c2 : k = 2
      · have nq : ¬ zS z = 1 := fun y => hc ⟨y, c2⟩
        rw [if_pos c2]
        rw [if_neg nq]
        repeat' split
        all_goals rfl
      · rw [if_neg c2]
        repeat' split
        all_goals rfl
theorem zA_R (z : ZT) (k s : Nat) : zR (zA z k s) = if zS z = 3 ∧ k = 2 then zR z + 1 else zR z := by
  by_cases hc : zS z = 3 ∧ k = 2
  · rw [if_pos hc]
    unfold zA
    rw [if_neg (show ¬ zS z = 0 by omega), if_pos hc.2, if_neg (show ¬ zS z = 1 by omega), if_pos hc.1]
    rfl
  · rw [if_neg hc]
    unfold zA
    by_cases c0 : zS z = 0
    · rw [if_pos c0]; rfl
    · rw [if_neg c0]
      by_cases c2 : k = 2
      · have nq : ¬ zS z = 3 := fun y => hc ⟨y, c2⟩
        rw [if_pos c2]
        by_cases c1 : zS z = 1
        · rw [if_pos c1]; rfl
        · rw [if_neg c1]
          rw [if_neg nq]
          repeat' split
          all_goals rfl
      · rw [if_neg c2]
        repeat' split
        all_goals rfl
theorem zA_L (z : ZT) (k s : Nat) : zL (zA z k s) = if zS z = 7 ∧ k = 2 then zL z + 1 else zL z := by
  by_cases hc : zS z = 7 ∧ k = 2
  · rw [if_pos hc]
    unfold zA
    rw [if_neg (show ¬ zS z = 0 by omega), if_pos hc.2, if_neg (show ¬ zS z = 1 by omega), if_neg (show ¬ zS z = 3 by omega), if_pos hc.1]
    rfl
  · rw [if_neg hc]
    unfold zA
    by_cases c0 : zS z = 0
    · rw [if_pos c0]; rfl
    · rw [if_neg c0]
      by_cases c2 : k = 2
      · have nq : ¬ zS z = 7 := fun y => hc ⟨y, c2⟩
        rw [if_pos c2]
        by_cases c1 : zS z = 1
        · rw [if_pos c1]; rfl
        · rw [if_neg c1]
          by_cases c3 : zS z = 3
          · rw [if_pos c3]; rfl
          · rw [if_neg c3]
            rw [if_neg nq]
            repeat' split
            all_goals rfl
      · rw [if_neg c2]
        repeat' split
        all_goals rfl
theorem zA_V (z : ZT) (k s : Nat) : zV (zA z k s) = if zS z = 0 ∧ k = 10 then zV z + 1 else zV z := by
  unfold zA
  by_cases c : zS z = 0
  · rw [if_pos c]
    show (if k = 10 then zV z + 1 else zV z) = _
    by_cases c2 : k = 10
    · rw [if_pos c2, if_pos ⟨c, c2⟩]
    · rw [if_neg c2, if_neg (fun y => c2 y.2)]
  · rw [if_neg c, if_neg (show ¬ (zS z = 0 ∧ k = 10) from fun y => c y.1)]
    repeat' split
    all_goals rfl
theorem zC_S {z : ZT} (h : zC z = true) : (zS z = 10 ∨ zS z = 11) ∧ zT z ≠ 10 := by
  unfold zC at h
  rw [Bool.and_eq_true, Bool.or_eq_true, decide_eq_true_eq, decide_eq_true_eq, decide_eq_true_eq] at h
  exact h
theorem zC_of {z : ZT} (h : zS z = 10 ∨ zS z = 11) (h2 : zT z ≠ 10) : zC z = true := by
  unfold zC
  rw [Bool.and_eq_true, Bool.or_eq_true, decide_eq_true_eq, decide_eq_true_eq, decide_eq_true_eq]
  exact ⟨h, h2⟩
theorem zA_K (z : ZT) (k s : Nat) : zK (zA z k s) = if zC z = true ∧ k = 2 then zK z + 1 else zK z := by
  by_cases c : zC z = true
  · have hs := zC_S c
    unfold zA
    rw [if_neg (by omega)]
    by_cases c2 : k = 2
    · rw [if_pos c2, if_neg (by omega), if_neg (by omega), if_neg (by omega), if_pos c, if_pos ⟨c, c2⟩]
      rfl
    · rw [if_neg c2, if_neg (show ¬ (zC z = true ∧ k = 2) from fun y => c2 y.2)]
      repeat' split
      all_goals rfl
  · rw [if_neg (show ¬ (zC z = true ∧ k = 2) from fun y => c y.1)]
    unfold zA
    repeat' split
    all_goals rfl
/-- one token further: state, and what is counted -/
theorem zst {kd : Nat → Nat} (hkd : ∀ i, kd i < 19) {N i : Nat} (hok : ∀ j, j < N → zok kd j) (hi : i < N) : ∃ s, zB (zS (zz kd i)) (zD (zz kd i)) (kd i) = some s ∧ zS (zz kd i) < 13 ∧ zz kd (i + 1) = zA (zz kd i) (kd i) s ∧ zO (zz kd i) (kd i) = false := by
  have hz := zW_all hkd (fun j hj => hok j (show j < N by omega)) (i := i)
  obtain ⟨s, h1, h2, h3⟩ := zok_s hkd hz (hok i hi)
  exact ⟨s, h1, hz.1, h2, (hok i hi).2.2⟩
/-- counts grow -/
theorem z_mono {kd : Nat → Nat} (hkd : ∀ i, kd i < 19) {N : Nat} (hok : ∀ j, j < N → zok kd j) : ∀ {i j : Nat}, i ≤ j → j ≤ N → zI (zz kd i) ≤ zI (zz kd j) ∧ zR (zz kd i) ≤ zR (zz kd j) ∧ zL (zz kd i) ≤ zL (zz kd j) ∧ zV (zz kd i) ≤ zV (zz kd j) ∧ zK (zz kd i) ≤ zK (zz kd j) := fun {i j} hij hj => by
  obtain ⟨m, rfl⟩ := Nat.exists_eq_add_of_le hij
  induction m with
  | zero => exact ⟨Nat.le_refl _, Nat.le_refl _, Nat.le_refl _, Nat.le_refl _, Nat.le_refl _⟩
  | succ m ih =>
    have ih2 := ih (by omega) (by omega)
    obtain ⟨s, _, _, e, _⟩ := zst hkd hok (show i + m < N by omega)
    rw [show i + (m + 1) = (i + m) + 1 from rfl, e, zA_I, zA_R, zA_L, zA_V, zA_K]
    refine ⟨?_, ?_, ?_, ?_, ?_⟩ <;> split <;> omega
/-- behind a token that leaves a telling's head, the next head counts one more -/
theorem z_nb {kd : Nat → Nat} (hkd : ∀ i, kd i < 19) {N : Nat} (hok : ∀ j, j < N → zok kd j) (b : Nat → Nat → Prop) (c : ZT → Nat) (hc : ∀ {i : Nat}, i < N → c (zz kd i) ≤ c (zz kd (i + 1))) (hb : ∀ {i : Nat}, i < N → ¬ b (zS (zz kd i)) (zT (zz kd i)) → b (zS (zz kd (i + 1))) (zT (zz kd (i + 1))) → c (zz kd i) < c (zz kd (i + 1))) {i : Nat} (h0 : ¬ b (zS (zz kd i)) (zT (zz kd i))) : ∀ {j : Nat}, i ≤ j → j ≤ N → c (zz kd i) < c (zz kd j) ∨ (c (zz kd i) ≤ c (zz kd j) ∧ ¬ b (zS (zz kd j)) (zT (zz kd j))) := fun {j} hij hj => by
  obtain ⟨m, rfl⟩ := Nat.exists_eq_add_of_le hij
  induction m with
  | zero => exact Or.inr ⟨Nat.le_refl _, h0⟩
  | succ m ih =>
    have h1 := hc (show i + m < N by omega)
    have h2 := hb (show i + m < N by omega)
    rcases ih (by omega) (by omega) with z | ⟨z1, z2⟩
    · left
      show c (zz kd i) < c (zz kd (i + m + 1))
      omega
    · by_cases q : b (zS (zz kd (i + m + 1))) (zT (zz kd (i + m + 1)))
      · left
        have := h2 z2 q
        show c (zz kd i) < c (zz kd (i + m + 1))
        omega
      · right
        refine ⟨?_, q⟩
        show c (zz kd i) ≤ c (zz kd (i + m + 1))
        omega
def bR (s t : Nat) : Prop := s = 4 ∨ s = 5 ∨ (s = 6 ∧ t = 6)
def bS (s _t : Nat) : Prop := s = 4 ∨ s = 5
def bL (s t : Nat) : Prop := s = 6 ∧ t ≠ 6
def bV (s _t : Nat) : Prop := s = 8 ∨ s = 9
def bW (s _t : Nat) : Prop := s = 8
theorem z_nbs {kd : Nat → Nat} (hkd : ∀ i, kd i < 19) {N : Nat} (hok : ∀ j, j < N → zok kd j) {i j : Nat} (hij : i ≤ j) (hj : j ≤ N) : (¬ bR (zS (zz kd i)) (zT (zz kd i)) → zR (zz kd i) < zR (zz kd j) ∨ ¬ bR (zS (zz kd j)) (zT (zz kd j))) ∧ (¬ bS (zS (zz kd i)) (zT (zz kd i)) → zR (zz kd i) < zR (zz kd j) ∨ ¬ bS (zS (zz kd j)) (zT (zz kd j))) ∧ (¬ bL (zS (zz kd i)) (zT (zz kd i)) → zL (zz kd i) < zL (zz kd j) ∨ ¬ bL (zS (zz kd j)) (zT (zz kd j))) ∧ (¬ bV (zS (zz kd i)) (zT (zz kd i)) → zV (zz kd i) < zV (zz kd j) ∨ ¬ bV (zS (zz kd j)) (zT (zz kd j))) ∧ (¬ bW (zS (zz kd i)) (zT (zz kd i)) → zV (zz kd i) < zV (zz kd j) ∨ ¬ bW (zS (zz kd j)) (zT (zz kd j))) := by
  have m := fun {q : Nat} (hq : q < N) => z_mono hkd hok (Nat.le_succ q) hq
  have wT : ∀ {q : Nat}, q < N → zS (zz kd q) = 7 → zT (zz kd q) ≠ 6 := fun {q} hq h => by
    have hz := zW_all hkd (fun j hj => hok j (show j < N by omega)) (i := q)
    have := hz.2.2.2.2.2.2.2.2.2.2.2.2.1 h
    omega
  have w5 : ∀ {q : Nat}, q < N → zS (zz kd q) = 5 → zT (zz kd q) = 6 := fun {q} hq h => by
    have hz := zW_all hkd (fun j hj => hok j (show j < N by omega)) (i := q)
    exact hz.2.2.2.2.2.2.2.2.2.2.1 (Or.inr (Or.inr h))
  refine ⟨fun h => ?_, fun h => ?_, fun h => ?_, fun h => ?_, fun h => ?_⟩
  · have hb : ∀ {q : Nat}, q < N → ¬ bR (zS (zz kd q)) (zT (zz kd q)) → bR (zS (zz kd (q + 1))) (zT (zz kd (q + 1))) → zR (zz kd q) < zR (zz kd (q + 1)) := fun {q} hq n1 n2 => by
      obtain ⟨s, h1, h2, e, _⟩ := zst hkd hok hq
      have hc := zto h2 h1
      have := wT hq
      rw [e, zA_S, zA_T] at n2
      rw [e, zA_R]
      unfold bR at n1 n2
      split at n2 <;> split <;> omega
    rcases z_nb hkd hok bR zR (fun hq => (m hq).2.1) hb h hij hj with z | z
    · exact Or.inl z
    · exact Or.inr z.2
  · have hb : ∀ {q : Nat}, q < N → ¬ bS (zS (zz kd q)) (zT (zz kd q)) → bS (zS (zz kd (q + 1))) (zT (zz kd (q + 1))) → zR (zz kd q) < zR (zz kd (q + 1)) := fun {q} hq n1 n2 => by
      obtain ⟨s, h1, h2, e, _⟩ := zst hkd hok hq
      have hc := zto h2 h1
      rw [e, zA_S] at n2
      rw [e, zA_R]
      unfold bS at n1 n2
      split <;> omega
    rcases z_nb hkd hok bS zR (fun hq => (m hq).2.1) hb h hij hj with z | z
    · exact Or.inl z
    · exact Or.inr z.2
  · have hb : ∀ {q : Nat}, q < N → ¬ bL (zS (zz kd q)) (zT (zz kd q)) → bL (zS (zz kd (q + 1))) (zT (zz kd (q + 1))) → zL (zz kd q) < zL (zz kd (q + 1)) := fun {q} hq n1 n2 => by
      obtain ⟨s, h1, h2, e, _⟩ := zst hkd hok hq
      have hc := zto h2 h1
      have := w5 hq
      rw [e, zA_S, zA_T] at n2
      rw [e, zA_L]
      unfold bL at n1 n2
      split at n2 <;> split <;> omega
    rcases z_nb hkd hok bL zL (fun hq => (m hq).2.2.1) hb h hij hj with z | z
    · exact Or.inl z
    · exact Or.inr z.2
  · have hb : ∀ {q : Nat}, q < N → ¬ bV (zS (zz kd q)) (zT (zz kd q)) → bV (zS (zz kd (q + 1))) (zT (zz kd (q + 1))) → zV (zz kd q) < zV (zz kd (q + 1)) := fun {q} hq n1 n2 => by
      obtain ⟨s, h1, h2, e, _⟩ := zst hkd hok hq
      have hc := zto h2 h1
      rw [e, zA_S] at n2
      rw [e, zA_V]
      unfold bV at n1 n2
      split <;> omega
    rcases z_nb hkd hok bV zV (fun hq => (m hq).2.2.2.1) hb h hij hj with z | z
    · exact Or.inl z
    · exact Or.inr z.2
  · have hb : ∀ {q : Nat}, q < N → ¬ bW (zS (zz kd q)) (zT (zz kd q)) → bW (zS (zz kd (q + 1))) (zT (zz kd (q + 1))) → zV (zz kd q) < zV (zz kd (q + 1)) := fun {q} hq n1 n2 => by
      obtain ⟨s, h1, h2, e, _⟩ := zst hkd hok hq
      have hc := zto h2 h1
      rw [e, zA_S] at n2
      rw [e, zA_V]
      unfold bW at n1 n2
      split <;> omega
    rcases z_nb hkd hok bW zV (fun hq => (m hq).2.2.2.1) hb h hij hj with z | z
    · exact Or.inl z
    · exact Or.inr z.2
/-- the token that is so -/
def fnd (N : Nat) (p : Nat → Bool) : Nat := ((List.range N).find? p).getD 0
theorem fnd_o {N : Nat} {p : Nat → Bool} {i : Nat} (hi : i < N) (hp : p i = true) (h1 : ∀ j, j < N → p j = true → j = i) : (List.range N).find? p = some i := by
  cases h : (List.range N).find? p with
  | none =>
    rw [List.find?_eq_none] at h
    exact absurd hp (h i (List.mem_range.mpr hi))
  | some j =>
    have a := List.find?_some h
    have b := List.mem_range.mp (List.mem_of_find?_eq_some h)
    rw [h1 j b a]
theorem fnd_eq {N : Nat} {p : Nat → Bool} {i : Nat} (hi : i < N) (hp : p i = true) (h1 : ∀ j, j < N → p j = true → j = i) : fnd N p = i := by
  unfold fnd
  rw [fnd_o hi hp h1]
  rfl
theorem fnd_ex {N : Nat} {p : Nat → Bool} (h : ∃ i, i < N ∧ p i = true) : fnd N p < N ∧ p (fnd N p) = true := by
  obtain ⟨i, hi, hp⟩ := h
  unfold fnd
  cases h : (List.range N).find? p with
  | none =>
    rw [List.find?_eq_none] at h
    exact absurd hp (h i (List.mem_range.mpr hi))
  | some j => exact ⟨List.mem_range.mp (List.mem_of_find?_eq_some h), List.find?_some h⟩
/-- m things from a on, in a row -/
def sqL {A : Type} (f : Nat → A) : Nat → Nat → List A
  | _, 0 => []
  | a, m + 1 => f a :: sqL f (a + 1) m
theorem sqL_len {A : Type} (f : Nat → A) : ∀ m a, (sqL f a m).length = m
  | 0, _ => rfl
  | m + 1, a => by
    show (sqL f (a + 1) m).length + 1 = m + 1
    rw [sqL_len f m (a + 1)]
theorem sqL_at {A : Type} (f : Nat → A) (d : A) : ∀ m a i, i < m → (sqL f a m).getD i d = f (a + i)
  | 0, _, _, h => absurd h (Nat.not_lt_zero _)
  | m + 1, a, 0, _ => rfl
  | m + 1, a, i + 1, h => by
    show (sqL f (a + 1) m).getD i d = _
    rw [sqL_at f d m (a + 1) i (by omega), show a + 1 + i = a + (i + 1) by omega]
theorem sqL_app {A : Type} (f : Nat → A) : ∀ m a, sqL f a (m + 1) = sqL f a m ++ [f (a + m)]
  | 0, a => rfl
  | m + 1, a => by
    show f a :: sqL f (a + 1) (m + 1) = (f a :: sqL f (a + 1) m) ++ [f (a + (m + 1))]
    rw [sqL_app f m (a + 1), show a + 1 + m = a + (m + 1) by omega]
    rfl
theorem sqL_mem {A : Type} {f : Nat → A} {x : A} : ∀ {m a : Nat}, x ∈ sqL f a m → ∃ i, a ≤ i ∧ i < a + m ∧ x = f i
  | 0, _, h => by cases h
  | m + 1, a, h => by
    rcases List.mem_cons.mp h with e | h2
    · exact ⟨a, Nat.le_refl a, by omega, e⟩
    · obtain ⟨i, h1, h3, e⟩ := sqL_mem h2
      exact ⟨i, by omega, by omega, e⟩
/-- how many tokens stand ahead of the next ; -/
def cLn (kd : Nat → Nat) : Nat → Nat → Nat
  | 0, _ => 0
  | f + 1, i => if kd i = 12 then 0 else cLn kd f (i + 1) + 1
/-- a circuit's tokens are as they must be, and a ; ends them -/
theorem c_wf {kd : Nat → Nat} (hkd : ∀ i, kd i < 19) {N : Nat} (hok : ∀ j, j < N → zok kd j) (hN : zS (zz kd N) = 0) : ∀ (f a : Nat), a + f = N → 10 ≤ zS (zz kd a) → wfE (zS (zz kd a)) (zD (zz kd a)) (sqL kd a (cLn kd f a)) ∧ a + cLn kd f a < N ∧ kd (a + cLn kd f a) = 12 ∧ zS (zz kd (a + cLn kd f a)) = 12 ∧ zT (zz kd (a + cLn kd f a)) = zT (zz kd a) ∧ (∀ j, j ≤ cLn kd f a → zT (zz kd (a + j)) = zT (zz kd a) ∧ zI (zz kd (a + j)) = zI (zz kd a) ∧ zR (zz kd (a + j)) = zR (zz kd a) ∧ zL (zz kd (a + j)) = zL (zz kd a) ∧ zV (zz kd (a + j)) = zV (zz kd a) ∧ 10 ≤ zS (zz kd (a + j)) ∧ zK (zz kd (a + j)) = zK (zz kd a) + (if zT (zz kd a) = 10 then 0 else nmE (sqL kd a j)))
  | 0, a, h, h10 => by
    rw [show a = N by omega, hN] at h10
    omega
  | f + 1, a, h, h10 => by
    have ha : a < N := by omega
    obtain ⟨s, h1, h2, e, hO⟩ := zst hkd hok ha
    have hc := zfr h2 h10 h1
    have hd4 := (zW_all hkd (fun j hj => hok j (show j < N by omega)) (i := a)).2.1
    by_cases c12 : kd a = 12
    · have e0 : cLn kd (f + 1) a = 0 := if_pos c12
      rw [e0]
      have e12 : zS (zz kd a) = 12 := by omega
      have ed : zD (zz kd a) = 0 := by omega
      refine ⟨⟨e12, ed⟩, ha, c12, e12, rfl, fun j hj => ?_⟩
      have e1 : j = 0 := by omega
      subst e1
      refine ⟨rfl, rfl, rfl, rfl, rfl, h10, ?_⟩
      show zK (zz kd a) = zK (zz kd a) + (if zT (zz kd a) = 10 then 0 else 0)
      split <;> omega
    · have e0 : cLn kd (f + 1) a = cLn kd f (a + 1) + 1 := if_neg c12
      rw [e0]
      have es : zS (zz kd (a + 1)) = s := by rw [e, zA_S]
      have eD : zD (zz kd (a + 1)) = if kd a = 17 then zD (zz kd a) + 1 else if kd a = 18 then zD (zz kd a) - 1 else zD (zz kd a) := by rw [e, zA_D (by omega)]
      have eT : zT (zz kd (a + 1)) = zT (zz kd a) := by rw [e, zA_T, if_neg (by omega)]
      have eI : zI (zz kd (a + 1)) = zI (zz kd a) := by rw [e, zA_I, if_neg (by omega)]
      have eR : zR (zz kd (a + 1)) = zR (zz kd a) := by rw [e, zA_R, if_neg (by omega)]
      have eL : zL (zz kd (a + 1)) = zL (zz kd a) := by rw [e, zA_L, if_neg (by omega)]
      have eV : zV (zz kd (a + 1)) = zV (zz kd a) := by rw [e, zA_V, if_neg (by omega)]
      have eK : zK (zz kd (a + 1)) = zK (zz kd a) + (if zT (zz kd a) = 10 then 0 else if kd a = 2 then 1 else 0) := by
        rw [e, zA_K]
        by_cases c2 : kd a = 2
        · rw [if_pos c2]
          by_cases cT : zT (zz kd a) = 10
          · rw [if_pos cT, if_neg (fun y => (zC_S y.1).2 cT)]
            rfl
          · rw [if_neg cT, if_pos ⟨zC_of (by omega) cT, c2⟩]
        · rw [if_neg c2, if_neg (fun y => c2 y.2)]
          split <;> omega
      have hO4 : kd a = 17 → zD (zz kd a) < 4 := fun e17 => by
        rw [e17] at hO
        have := of_decide_eq_false (show decide (4 ≤ zD (zz kd a)) = false from hO)
        omega
      have s10 : 10 ≤ s := by omega
      obtain ⟨i1, i2, i3, i4, i5, i6⟩ := c_wf hkd hok hN f (a + 1) (by omega) (by rw [es]; exact s10)
      rw [es, eD] at i1
      rw [show a + 1 + cLn kd f (a + 1) = a + (cLn kd f (a + 1) + 1) by omega] at i2 i3 i4 i5
      refine ⟨?_, i2, i3, i4, i5.trans eT, fun j hj => ?_⟩
      · show (zS (zz kd a) = 10 ∧ ((kd a = 2 ∧ wfE 12 (zD (zz kd a)) (sqL kd (a + 1) (cLn kd f (a + 1)))) ∨ (kd a = 14 ∧ wfE 11 (zD (zz kd a)) (sqL kd (a + 1) (cLn kd f (a + 1)))) ∨ (kd a = 17 ∧ zD (zz kd a) < 4 ∧ wfE 10 (zD (zz kd a) + 1) (sqL kd (a + 1) (cLn kd f (a + 1)))))) ∨ (zS (zz kd a) = 11 ∧ kd a = 2 ∧ wfE 12 (zD (zz kd a)) (sqL kd (a + 1) (cLn kd f (a + 1)))) ∨ (zS (zz kd a) = 12 ∧ (((kd a = 15 ∨ kd a = 16) ∧ wfE 10 (zD (zz kd a)) (sqL kd (a + 1) (cLn kd f (a + 1)))) ∨ (kd a = 18 ∧ 0 < zD (zz kd a) ∧ wfE 12 (zD (zz kd a) - 1) (sqL kd (a + 1) (cLn kd f (a + 1))))))
        by_cases k2 : kd a = 2
        · rw [if_neg (by omega), if_neg (by omega), show s = 12 by omega] at i1
          rcases (show zS (zz kd a) = 10 ∨ zS (zz kd a) = 11 by omega) with q | q
          · exact Or.inl ⟨q, Or.inl ⟨k2, i1⟩⟩
          · exact Or.inr (Or.inl ⟨q, k2, i1⟩)
        · by_cases k14 : kd a = 14
          · rw [if_neg (by omega), if_neg (by omega), show s = 11 by omega] at i1
            exact Or.inl ⟨by omega, Or.inr (Or.inl ⟨k14, i1⟩)⟩
          · by_cases k17 : kd a = 17
            · rw [if_pos k17, show s = 10 by omega] at i1
              exact Or.inl ⟨by omega, Or.inr (Or.inr ⟨k17, hO4 k17, i1⟩)⟩
            · by_cases k18 : kd a = 18
              · rw [if_neg k17, if_pos k18, show s = 12 by omega] at i1
                exact Or.inr (Or.inr ⟨by omega, Or.inr ⟨k18, by omega, i1⟩⟩)
              · rw [if_neg k17, if_neg k18, show s = 10 by omega] at i1
                exact Or.inr (Or.inr ⟨by omega, Or.inl ⟨by omega, i1⟩⟩)
      · cases j with
        | zero =>
          refine ⟨rfl, rfl, rfl, rfl, rfl, h10, ?_⟩
          show zK (zz kd a) = zK (zz kd a) + (if zT (zz kd a) = 10 then 0 else 0)
          split <;> omega
        | succ j =>
          obtain ⟨a1, a2, a3, a4, a5, a6, a7⟩ := i6 j (by omega)
          rw [show a + 1 + j = a + (j + 1) by omega] at a1 a2 a3 a4 a5 a6 a7
          refine ⟨a1.trans eT, a2.trans eI, a3.trans eR, a4.trans eL, a5.trans eV, a6, ?_⟩
          rw [a7, eT, eK]
          have en : nmE (sqL kd a (j + 1)) = (if kd a = 2 then 1 else 0) + nmE (sqL kd (a + 1) j) := rfl
          rw [en]
          by_cases cT : zT (zz kd a) = 10
          · rw [if_pos cT, if_pos cT, if_pos cT]
          · rw [if_neg cT, if_neg cT, if_neg cT]
            omega
