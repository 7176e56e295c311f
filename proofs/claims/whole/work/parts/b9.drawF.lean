/-! the drawing that a text tells -/
theorem zac {q d k s : Nat} (hs : q < 13) (h : zB q d k = some s) : (k = 13 → (q = 4 ∨ q = 6) ∧ s = 10) ∧ (q = 9 → k = 11 ∧ s = 10) ∧ (q = 5 → k = 3 ∧ s = 6) ∧ (q = 8 → k = 2 ∧ s = 9) ∧ (q = 3 → k = 2 ∧ s = 4) ∧ (q = 7 → k = 2 ∧ s = 6) ∧ (q = 6 → k = 13 ∧ s = 10) ∧ (q = 4 → (k = 7 ∧ s = 5) ∨ (k = 13 ∧ s = 10)) ∧ (q = 1 → k = 2 ∧ s = 2) ∧ (q = 2 → k = 12 ∧ s = 0) ∧ (10 ≤ s → q = 4 ∨ q = 6 ∨ q = 9 ∨ 10 ≤ q) ∧ (k = 11 → q = 9) := by
  have hq : q = 0 ∨ q = 1 ∨ q = 2 ∨ q = 3 ∨ q = 4 ∨ q = 5 ∨ q = 6 ∨ q = 7 ∨ q = 8 ∨ q = 9 ∨ q = 10 ∨ q = 11 ∨ q = 12 := by omega
  rcases hq with rfl | rfl | rfl | rfl | rfl | rfl | rfl | rfl | rfl | rfl | rfl | rfl | rfl
  · have h : (if k = 4 ∨ k = 5 then some 1 else (if k = 6 then some 3 else (if k = 8 ∨ k = 9 then some 7 else (if k = 10 then some 8 else (none : Option Nat))))) = some s := h
    by_cases c1 : k = 4 ∨ k = 5
    · rw [if_pos c1] at h
      injection h with h
      exact ⟨fun e => by omega, fun e => by omega, fun e => by omega, fun e => by omega, fun e => by omega, fun e => by omega, fun e => by omega, fun e => by omega, fun e => by omega, fun e => by omega, fun e => by omega, fun e => by omega⟩
    · rw [if_neg c1] at h
      by_cases c1 : k = 6
      · rw [if_pos c1] at h
        injection h with h
        exact ⟨fun e => by omega, fun e => by omega, fun e => by omega, fun e => by omega, fun e => by omega, fun e => by omega, fun e => by omega, fun e => by omega, fun e => by omega, fun e => by omega, fun e => by omega, fun e => by omega⟩
      · rw [if_neg c1] at h
        by_cases c1 : k = 8 ∨ k = 9
        · rw [if_pos c1] at h
          injection h with h
          exact ⟨fun e => by omega, fun e => by omega, fun e => by omega, fun e => by omega, fun e => by omega, fun e => by omega, fun e => by omega, fun e => by omega, fun e => by omega, fun e => by omega, fun e => by omega, fun e => by omega⟩
        · rw [if_neg c1] at h
          by_cases c1 : k = 10
          · rw [if_pos c1] at h
            injection h with h
            exact ⟨fun e => by omega, fun e => by omega, fun e => by omega, fun e => by omega, fun e => by omega, fun e => by omega, fun e => by omega, fun e => by omega, fun e => by omega, fun e => by omega, fun e => by omega, fun e => by omega⟩
          · rw [if_neg c1] at h
            cases h
  · have h : (if k = 2 then some 2 else (none : Option Nat)) = some s := h
    by_cases c1 : k = 2
    · rw [if_pos c1] at h
      injection h with h
      exact ⟨fun e => by omega, fun e => by omega, fun e => by omega, fun e => by omega, fun e => by omega, fun e => by omega, fun e => by omega, fun e => by omega, fun e => by omega, fun e => by omega, fun e => by omega, fun e => by omega⟩
    · rw [if_neg c1] at h
      cases h
  · have h : (if k = 12 then some 0 else (none : Option Nat)) = some s := h
    by_cases c1 : k = 12
    · rw [if_pos c1] at h
      injection h with h
      exact ⟨fun e => by omega, fun e => by omega, fun e => by omega, fun e => by omega, fun e => by omega, fun e => by omega, fun e => by omega, fun e => by omega, fun e => by omega, fun e => by omega, fun e => by omega, fun e => by omega⟩
    · rw [if_neg c1] at h
      cases h
  · have h : (if k = 2 then some 4 else (none : Option Nat)) = some s := h
    by_cases c1 : k = 2
    · rw [if_pos c1] at h
      injection h with h
      exact ⟨fun e => by omega, fun e => by omega, fun e => by omega, fun e => by omega, fun e => by omega, fun e => by omega, fun e => by omega, fun e => by omega, fun e => by omega, fun e => by omega, fun e => by omega, fun e => by omega⟩
    · rw [if_neg c1] at h
      cases h
  · have h : (if k = 7 then some 5 else (if k = 13 then some 10 else (none : Option Nat))) = some s := h
    by_cases c1 : k = 7
    · rw [if_pos c1] at h
      injection h with h
      exact ⟨fun e => by omega, fun e => by omega, fun e => by omega, fun e => by omega, fun e => by omega, fun e => by omega, fun e => by omega, fun e => by omega, fun e => by omega, fun e => by omega, fun e => by omega, fun e => by omega⟩
    · rw [if_neg c1] at h
      by_cases c1 : k = 13
      · rw [if_pos c1] at h
        injection h with h
        exact ⟨fun e => by omega, fun e => by omega, fun e => by omega, fun e => by omega, fun e => by omega, fun e => by omega, fun e => by omega, fun e => by omega, fun e => by omega, fun e => by omega, fun e => by omega, fun e => by omega⟩
      · rw [if_neg c1] at h
        cases h
  · have h : (if k = 3 then some 6 else (none : Option Nat)) = some s := h
    by_cases c1 : k = 3
    · rw [if_pos c1] at h
      injection h with h
      exact ⟨fun e => by omega, fun e => by omega, fun e => by omega, fun e => by omega, fun e => by omega, fun e => by omega, fun e => by omega, fun e => by omega, fun e => by omega, fun e => by omega, fun e => by omega, fun e => by omega⟩
    · rw [if_neg c1] at h
      cases h
  · have h : (if k = 13 then some 10 else (none : Option Nat)) = some s := h
    by_cases c1 : k = 13
    · rw [if_pos c1] at h
      injection h with h
      exact ⟨fun e => by omega, fun e => by omega, fun e => by omega, fun e => by omega, fun e => by omega, fun e => by omega, fun e => by omega, fun e => by omega, fun e => by omega, fun e => by omega, fun e => by omega, fun e => by omega⟩
    · rw [if_neg c1] at h
      cases h
  · have h : (if k = 2 then some 6 else (none : Option Nat)) = some s := h
    by_cases c1 : k = 2
    · rw [if_pos c1] at h
      injection h with h
      exact ⟨fun e => by omega, fun e => by omega, fun e => by omega, fun e => by omega, fun e => by omega, fun e => by omega, fun e => by omega, fun e => by omega, fun e => by omega, fun e => by omega, fun e => by omega, fun e => by omega⟩
    · rw [if_neg c1] at h
      cases h
  · have h : (if k = 2 then some 9 else (none : Option Nat)) = some s := h
    by_cases c1 : k = 2
    · rw [if_pos c1] at h
      injection h with h
      exact ⟨fun e => by omega, fun e => by omega, fun e => by omega, fun e => by omega, fun e => by omega, fun e => by omega, fun e => by omega, fun e => by omega, fun e => by omega, fun e => by omega, fun e => by omega, fun e => by omega⟩
    · rw [if_neg c1] at h
      cases h
  · have h : (if k = 11 then some 10 else (none : Option Nat)) = some s := h
    by_cases c1 : k = 11
    · rw [if_pos c1] at h
      injection h with h
      exact ⟨fun e => by omega, fun e => by omega, fun e => by omega, fun e => by omega, fun e => by omega, fun e => by omega, fun e => by omega, fun e => by omega, fun e => by omega, fun e => by omega, fun e => by omega, fun e => by omega⟩
    · rw [if_neg c1] at h
      cases h
  · have h : (if k = 2 then some 12 else (if k = 14 then some 11 else (if k = 17 then some 10 else (none : Option Nat)))) = some s := h
    by_cases c1 : k = 2
    · rw [if_pos c1] at h
      injection h with h
      exact ⟨fun e => by omega, fun e => by omega, fun e => by omega, fun e => by omega, fun e => by omega, fun e => by omega, fun e => by omega, fun e => by omega, fun e => by omega, fun e => by omega, fun e => by omega, fun e => by omega⟩
    · rw [if_neg c1] at h
      by_cases c1 : k = 14
      · rw [if_pos c1] at h
        injection h with h
        exact ⟨fun e => by omega, fun e => by omega, fun e => by omega, fun e => by omega, fun e => by omega, fun e => by omega, fun e => by omega, fun e => by omega, fun e => by omega, fun e => by omega, fun e => by omega, fun e => by omega⟩
      · rw [if_neg c1] at h
        by_cases c1 : k = 17
        · rw [if_pos c1] at h
          injection h with h
          exact ⟨fun e => by omega, fun e => by omega, fun e => by omega, fun e => by omega, fun e => by omega, fun e => by omega, fun e => by omega, fun e => by omega, fun e => by omega, fun e => by omega, fun e => by omega, fun e => by omega⟩
        · rw [if_neg c1] at h
          cases h
  · have h : (if k = 2 then some 12 else (none : Option Nat)) = some s := h
    by_cases c1 : k = 2
    · rw [if_pos c1] at h
      injection h with h
      exact ⟨fun e => by omega, fun e => by omega, fun e => by omega, fun e => by omega, fun e => by omega, fun e => by omega, fun e => by omega, fun e => by omega, fun e => by omega, fun e => by omega, fun e => by omega, fun e => by omega⟩
    · rw [if_neg c1] at h
      cases h
  · have h : (if k = 15 ∨ k = 16 then some 10 else (if k = 18 ∧ 0 < d then some 12 else (if k = 12 ∧ d = 0 then some 0 else (none : Option Nat)))) = some s := h
    by_cases c1 : k = 15 ∨ k = 16
    · rw [if_pos c1] at h
      injection h with h
      exact ⟨fun e => by omega, fun e => by omega, fun e => by omega, fun e => by omega, fun e => by omega, fun e => by omega, fun e => by omega, fun e => by omega, fun e => by omega, fun e => by omega, fun e => by omega, fun e => by omega⟩
    · rw [if_neg c1] at h
      by_cases c1 : k = 18 ∧ 0 < d
      · rw [if_pos c1] at h
        injection h with h
        exact ⟨fun e => by omega, fun e => by omega, fun e => by omega, fun e => by omega, fun e => by omega, fun e => by omega, fun e => by omega, fun e => by omega, fun e => by omega, fun e => by omega, fun e => by omega, fun e => by omega⟩
      · rw [if_neg c1] at h
        by_cases c1 : k = 12 ∧ d = 0
        · rw [if_pos c1] at h
          injection h with h
          exact ⟨fun e => by omega, fun e => by omega, fun e => by omega, fun e => by omega, fun e => by omega, fun e => by omega, fun e => by omega, fun e => by omega, fun e => by omega, fun e => by omega, fun e => by omega, fun e => by omega⟩
        · rw [if_neg c1] at h
          cases h
def TXT (kd : Nat → Nat) (N : Nat) : Prop := (∀ i, kd i < 19) ∧ (∀ j, j < N → zok kd j) ∧ zS (zz kd N) = 0
section TX0
variable {kd : Nat → Nat} {N : Nat}
theorem TXT.w (h : TXT kd N) {i : Nat} (hi : i ≤ N) : zW (zz kd i) := zW_all h.1 (fun j hj => h.2.1 j (by omega))
theorem TXT.st (h : TXT kd N) {i : Nat} (hi : i < N) : ∃ s, zB (zS (zz kd i)) (zD (zz kd i)) (kd i) = some s ∧ zS (zz kd i) < 13 ∧ zz kd (i + 1) = zA (zz kd i) (kd i) s ∧ zO (zz kd i) (kd i) = false := zst h.1 h.2.1 hi
theorem TXT.mo (h : TXT kd N) {i j : Nat} (hij : i ≤ j) (hj : j ≤ N) : zI (zz kd i) ≤ zI (zz kd j) ∧ zR (zz kd i) ≤ zR (zz kd j) ∧ zL (zz kd i) ≤ zL (zz kd j) ∧ zV (zz kd i) ≤ zV (zz kd j) ∧ zK (zz kd i) ≤ zK (zz kd j) := z_mono h.1 h.2.1 hij hj
/-- something of the sort of what is told has been counted -/
def zP (z : ZT) : Prop := (zS z = 4 ∨ zS z = 5 → 1 ≤ zR z) ∧ (zS z = 6 ∨ 10 ≤ zS z → (zT z = 6 → 1 ≤ zR z) ∧ (zT z = 8 ∨ zT z = 9 → 1 ≤ zL z) ∧ (zT z = 10 → 1 ≤ zV z)) ∧ (zS z = 8 ∨ zS z = 9 → 1 ≤ zV z)
theorem TXT.p (h : TXT kd N) : ∀ {i : Nat}, i ≤ N → zP (zz kd i)
  | 0, _ => show zP z0 from ⟨fun e => absurd (show (0 : Nat) = 4 ∨ (0 : Nat) = 5 from e) (by decide), fun e => absurd (show (0 : Nat) = 6 ∨ 10 ≤ 0 from e) (by decide), fun e => absurd (show (0 : Nat) = 8 ∨ (0 : Nat) = 9 from e) (by decide)⟩
  | i + 1, hi => by
    obtain ⟨p1, p2, p3⟩ := TXT.p h (show i ≤ N by omega)
    obtain ⟨s, h1, h2, e, _⟩ := h.st (show i < N by omega)
    obtain ⟨_, _, _, _, _, _, _, _, _, w10, w11, w12, w13, w14, w15, _⟩ := h.w (show i ≤ N by omega)
    obtain ⟨t4, t5, t6, t8, t9, _⟩ := zto h2 h1
    have t10 := (zac h2 h1).2.2.2.2.2.2.2.2.2.2.1
    have c13 := (zac h2 h1).1
    have q9 := (zac h2 h1).2.1
    have q6 := (zac h2 h1).2.2.2.2.2.2.1
    have q4 := (zac h2 h1).2.2.2.2.2.2.2.1
    rw [e]
    unfold zP
    rw [zA_S, zA_T, zA_R, zA_L, zA_V]
    refine ⟨fun hs => ?_, fun hs => ⟨fun ht => ?_, fun ht => ?_, fun ht => ?_⟩, fun hs => ?_⟩
    · rcases hs with hs | hs
      · rw [if_pos (t4 hs)]; omega
      · have := t5 hs
        have := p1 (Or.inl this.1)
        split <;> omega
    · rcases hs with hs | hs
      · rcases t6 hs with z | z
        · have := p1 (Or.inr z.1)
          split <;> omega
        · have := w13 z.1
          rw [if_neg (show ¬ zS (zz kd i) = 0 by omega)] at ht
          omega
      · rcases t10 hs with z | z | z | z
        · have := p1 (Or.inl z)
          split <;> omega
        · rw [if_neg (show ¬ zS (zz kd i) = 0 by omega)] at ht
          have := (p2 (Or.inl z)).1 ht
          split <;> omega
        · have := w14 (Or.inr z)
          rw [if_neg (show ¬ zS (zz kd i) = 0 by omega)] at ht
          omega
        · rw [if_neg (show ¬ zS (zz kd i) = 0 by omega)] at ht
          have := (p2 (Or.inr z)).1 ht
          split <;> omega
    · rcases hs with hs | hs
      · rcases t6 hs with z | z
        · have := w11 (Or.inr (Or.inr z.1))
          rw [if_neg (show ¬ zS (zz kd i) = 0 by omega)] at ht
          omega
        · rw [if_pos z]; omega
      · rcases t10 hs with z | z | z | z
        · have := w11 (Or.inr (Or.inl z))
          rw [if_neg (show ¬ zS (zz kd i) = 0 by omega)] at ht
          omega
        · rw [if_neg (show ¬ zS (zz kd i) = 0 by omega)] at ht
          have := (p2 (Or.inl z)).2.1 ht
          split <;> omega
        · have := w14 (Or.inr z)
          rw [if_neg (show ¬ zS (zz kd i) = 0 by omega)] at ht
          omega
        · rw [if_neg (show ¬ zS (zz kd i) = 0 by omega)] at ht
          have := (p2 (Or.inr z)).2.1 ht
          split <;> omega
    · rcases hs with hs | hs
      · rcases t6 hs with z | z
        · have := w11 (Or.inr (Or.inr z.1))
          rw [if_neg (show ¬ zS (zz kd i) = 0 by omega)] at ht
          omega
        · have := w13 z.1
          rw [if_neg (show ¬ zS (zz kd i) = 0 by omega)] at ht
          omega
      · rcases t10 hs with z | z | z | z
        · have := w11 (Or.inr (Or.inl z))
          rw [if_neg (show ¬ zS (zz kd i) = 0 by omega)] at ht
          omega
        · rw [if_neg (show ¬ zS (zz kd i) = 0 by omega)] at ht
          have := (p2 (Or.inl z)).2.2 ht
          split <;> omega
        · have := p3 (Or.inr z)
          split <;> omega
        · rw [if_neg (show ¬ zS (zz kd i) = 0 by omega)] at ht
          have := (p2 (Or.inr z)).2.2 ht
          split <;> omega
    · rcases hs with hs | hs
      · rw [if_pos (t8 hs)]; omega
      · have := t9 hs
        have := p3 (Or.inl this.1)
        split <;> omega
theorem un_c {c : ZT → Nat} {P : Nat → Prop} (mo : ∀ {i j : Nat}, i ≤ j → j ≤ N → c (zz kd i) ≤ c (zz kd j)) (stp : ∀ i, i < N → P i → c (zz kd (i + 1)) = c (zz kd i) + 1) {i j : Nat} (hi : i < N) (hj : j < N) (pi : P i) (pj : P j) (e : c (zz kd i) = c (zz kd j)) : i = j := by
  rcases Nat.lt_trichotomy i j with z | z | z
  · have a := stp i hi pi
    have b := mo (show i + 1 ≤ j by omega) (show j ≤ N by omega)
    omega
  · exact z
  · have a := stp j hj pj
    have b := mo (show j + 1 ≤ i by omega) (show i ≤ N by omega)
    omega
/-- counts reach each number -/
theorem z_reach {f : Nat → Nat} {i k : Nat} : ∀ {m : Nat}, f i ≤ k → k < f (i + m) → (∀ q, i ≤ q → q < i + m → f (q + 1) ≤ f q + 1) → ∃ q, i ≤ q ∧ q < i + m ∧ f q = k ∧ f (q + 1) = k + 1
  | 0, h1, h2, _ => by
    have : k < f i := h2
    omega
  | m + 1, h1, h2, h3 => by
    by_cases c : k < f (i + m)
    · obtain ⟨q, a, b, d⟩ := z_reach h1 c (fun q a b => h3 q a (by omega))
      exact ⟨q, a, by omega, d⟩
    · have h4 := h3 (i + m) (by omega) (by omega)
      have h5 : k < f (i + m + 1) := h2
      exact ⟨i + m, by omega, by omega, by omega, by omega⟩
theorem TXT.s1 (h : TXT kd N) {i : Nat} (hi : i < N) (hs : zS (zz kd i) = 1) : kd i = 2 ∧ zI (zz kd (i + 1)) = zI (zz kd i) + 1 := by
  obtain ⟨s, h1, h2, e, _⟩ := h.st hi
  have c := (zac h2 h1).2.2.2.2.2.2.2.2.1 hs
  exact ⟨c.1, by rw [e, zA_I, if_pos ⟨hs, c.1⟩]⟩
theorem TXT.s3 (h : TXT kd N) {i : Nat} (hi : i < N) (hs : zS (zz kd i) = 3) : kd i = 2 ∧ zR (zz kd (i + 1)) = zR (zz kd i) + 1 ∧ zS (zz kd (i + 1)) = 4 ∧ zT (zz kd (i + 1)) = 6 := by
  obtain ⟨s, h1, h2, e, _⟩ := h.st hi
  have c := (zac h2 h1).2.2.2.2.1 hs
  have w := (h.w (show i ≤ N by omega)).2.2.2.2.2.2.2.2.2.2.1 (Or.inl hs)
  exact ⟨c.1, by rw [e, zA_R, if_pos ⟨hs, c.1⟩], by rw [e, zA_S]; exact c.2, by rw [e, zA_T, if_neg (by omega)]; exact w⟩
theorem TXT.s7 (h : TXT kd N) {i : Nat} (hi : i < N) (hs : zS (zz kd i) = 7) : kd i = 2 ∧ zL (zz kd (i + 1)) = zL (zz kd i) + 1 ∧ zS (zz kd (i + 1)) = 6 ∧ zT (zz kd (i + 1)) = zT (zz kd i) ∧ (zT (zz kd i) = 8 ∨ zT (zz kd i) = 9) := by
  obtain ⟨s, h1, h2, e, _⟩ := h.st hi
  have c := (zac h2 h1).2.2.2.2.2.1 hs
  have w := (h.w (show i ≤ N by omega)).2.2.2.2.2.2.2.2.2.2.2.2.1 hs
  exact ⟨c.1, by rw [e, zA_L, if_pos ⟨hs, c.1⟩], by rw [e, zA_S]; exact c.2, by rw [e, zA_T, if_neg (by omega)], w⟩
/-- a relay's or lamp's number -/
def ownZ (z : ZT) : Nat := if zT z = 6 then zR z - 1 else 6 + (zL z - 1)
/-- = -/
theorem TXT.q13 (h : TXT kd N) {i : Nat} (hi : i < N) (hk : kd i = 13) : (zS (zz kd i) = 4 ∨ zS (zz kd i) = 6) ∧ zS (zz kd (i + 1)) = 10 ∧ zT (zz kd (i + 1)) = zT (zz kd i) ∧ zR (zz kd (i + 1)) = zR (zz kd i) ∧ zL (zz kd (i + 1)) = zL (zz kd i) ∧ zK (zz kd (i + 1)) = zK (zz kd i) ∧ zV (zz kd (i + 1)) = zV (zz kd i) ∧ zD (zz kd (i + 1)) = 0 ∧ ((zT (zz kd i) = 6 ∧ 1 ≤ zR (zz kd i) ∧ zR (zz kd i) ≤ 6) ∨ ((zT (zz kd i) = 8 ∨ zT (zz kd i) = 9) ∧ zS (zz kd i) = 6 ∧ 1 ≤ zL (zz kd i) ∧ zL (zz kd i) ≤ 5)) := by
  obtain ⟨s, h1, h2, e, _⟩ := h.st hi
  have c := (zac h2 h1).1 hk
  obtain ⟨p1, p2, p3⟩ := h.p (show i ≤ N by omega)
  obtain ⟨_, _, _, _, b5, b6, _, _, w9, w10, w11, w12, w13, w14, w15, _⟩ := h.w (show i ≤ N by omega)
  have w9 := w9 (by omega)
  refine ⟨c.1, by rw [e, zA_S]; exact c.2, by rw [e, zA_T, if_neg (by omega)], by rw [e, zA_R, if_neg (by omega)], by rw [e, zA_L, if_neg (by omega)], by rw [e, zA_K, if_neg (by omega)], by rw [e, zA_V, if_neg (by omega)], by rw [e, zA_D (by omega), if_neg (by omega), if_neg (by omega)]; exact w9, ?_⟩
  rcases c.1 with z | z
  · exact Or.inl ⟨w11 (Or.inr (Or.inl z)), p1 (Or.inl z), b5⟩
  · rcases w12 z with t | t
    · exact Or.inl ⟨t, (p2 (Or.inl z)).1 t, b5⟩
    · exact Or.inr ⟨t, z, (p2 (Or.inl z)).2.1 t, b6⟩
theorem TXT.un13 (h : TXT kd N) {i j : Nat} (hi : i < N) (hj : j < N) (ki : kd i = 13) (kj : kd j = 13) (e : ownZ (zz kd i) = ownZ (zz kd j)) : i = j := by
  have key : ∀ {i j : Nat}, i < N → j < N → kd i = 13 → kd j = 13 → ownZ (zz kd i) = ownZ (zz kd j) → ¬ i < j := fun {i j} hi hj ki kj e hij => by
    obtain ⟨a1, a2, a3, a4, a5, _, _, _, a9⟩ := h.q13 hi ki
    obtain ⟨b1, b2, b3, b4, b5, _, _, _, b9⟩ := h.q13 hj kj
    obtain ⟨nR, _, nL, _⟩ := z_nbs h.1 h.2.1 (show i + 1 ≤ j by omega) (show j ≤ N by omega)
    have nR := nR (by unfold bR; omega)
    have nL := nL (by unfold bL; omega)
    have w11 := (h.w (show j ≤ N by omega)).2.2.2.2.2.2.2.2.2.2.1
    unfold ownZ at e
    rcases a9 with x | x <;> rcases b9 with y | y
    · rw [if_pos x.1, if_pos y.1] at e
      have : bR (zS (zz kd j)) (zT (zz kd j)) := by
        rcases b1 with z | z
        · exact Or.inl z
        · exact Or.inr (Or.inr ⟨z, y.1⟩)
      rcases nR with z | z
      · omega
      · exact z this
    · rw [if_pos x.1, if_neg (by omega)] at e
      omega
    · rw [if_neg (by omega), if_pos y.1] at e
      omega
    · rw [if_neg (by omega), if_neg (by omega)] at e
      have : bL (zS (zz kd j)) (zT (zz kd j)) := ⟨y.2.1, by omega⟩
      rcases nL with z | z
      · omega
      · exact z this
  rcases Nat.lt_trichotomy i j with z | z | z
  · exact absurd z (key hi hj ki kj e)
  · exact z
  · exact absurd z (key hj hi kj ki e.symm)
/-- each relay and lamp has its = -/
theorem TXT.ex13 (h : TXT kd N) {c : Nat} (hc : cirB (zR (zz kd N)) (zL (zz kd N)) c = true) : ∃ i, i < N ∧ kd i = 13 ∧ ownZ (zz kd i) = c := by
  have hN := h.2.2
  unfold cirB at hc
  by_cases c6 : c < 6
  · rw [if_pos c6, decide_eq_true_eq] at hc
    obtain ⟨q, _, hq, e1, e2⟩ := z_reach (f := fun i => zR (zz kd i)) (i := 0) (k := c) (m := N) (Nat.zero_le _) (by rw [Nat.zero_add]; exact hc) (fun q _ hq => by
      obtain ⟨s, h1, h2, e, _⟩ := h.st (show q < N by omega)
      show zR (zz kd (q + 1)) ≤ zR (zz kd q) + 1
      rw [e, zA_R]
      split <;> omega)
    rw [Nat.zero_add] at hq
    have e1 : zR (zz kd q) = c := e1
    have e2 : zR (zz kd (q + 1)) = c + 1 := e2
    have hs : zS (zz kd q) = 3 := by
      obtain ⟨s, h1, h2, e, _⟩ := h.st hq
      rw [e, zA_R] at e2
      split at e2
      · next y => exact y.1
      · omega
    obtain ⟨k2, r1, st4, t6⟩ := h.s3 hq hs
    have hq1 : q + 1 < N := by
      rcases Nat.lt_or_ge (q + 1) N with z | z
      · exact z
      · have : q + 1 = N := by omega
        rw [this, hN] at st4
        omega
    obtain ⟨s, h1, h2, e, _⟩ := h.st hq1
    rcases (zac h2 h1).2.2.2.2.2.2.2.1 st4 with ⟨k7, s5⟩ | ⟨k13, _⟩
    · have st5 : zS (zz kd (q + 1 + 1)) = 5 := by rw [e, zA_S]; exact s5
      have t6b : zT (zz kd (q + 1 + 1)) = 6 := by rw [e, zA_T, if_neg (by omega)]; exact t6
      have r2 : zR (zz kd (q + 1 + 1)) = c + 1 := by rw [e, zA_R, if_neg (by omega)]; exact e2
      have hq2 : q + 1 + 1 < N := by
        rcases Nat.lt_or_ge (q + 1 + 1) N with z | z
        · exact z
        · have : q + 1 + 1 = N := by omega
          rw [this, hN] at st5
          omega
      obtain ⟨s', h1', h2', e', _⟩ := h.st hq2
      have k3 := (zac h2' h1').2.2.1 st5
      have st6 : zS (zz kd (q + 1 + 1 + 1)) = 6 := by rw [e', zA_S]; exact k3.2
      have t6c : zT (zz kd (q + 1 + 1 + 1)) = 6 := by rw [e', zA_T, if_neg (by omega)]; exact t6b
      have r3 : zR (zz kd (q + 1 + 1 + 1)) = c + 1 := by rw [e', zA_R, if_neg (by omega)]; exact r2
      have hq3 : q + 1 + 1 + 1 < N := by
        rcases Nat.lt_or_ge (q + 1 + 1 + 1) N with z | z
        · exact z
        · have : q + 1 + 1 + 1 = N := by omega
          rw [this, hN] at st6
          omega
      obtain ⟨s'', h1'', h2'', e'', _⟩ := h.st hq3
      have k13 := (zac h2'' h1'').2.2.2.2.2.2.1 st6
      exact ⟨q + 1 + 1 + 1, hq3, k13.1, by unfold ownZ; rw [if_pos t6c, r3]; rfl⟩
    · exact ⟨q + 1, hq1, k13, by unfold ownZ; rw [if_pos t6, e2]; rfl⟩
  · rw [if_neg c6, decide_eq_true_eq] at hc
    obtain ⟨q, _, hq, e1, e2⟩ := z_reach (f := fun i => zL (zz kd i)) (i := 0) (k := c - 6) (m := N) (Nat.zero_le _) (by rw [Nat.zero_add]; show c - 6 < zL (zz kd N); omega) (fun q _ hq => by
      obtain ⟨s, h1, h2, e, _⟩ := h.st (show q < N by omega)
      show zL (zz kd (q + 1)) ≤ zL (zz kd q) + 1
      rw [e, zA_L]
      split <;> omega)
    rw [Nat.zero_add] at hq
    have e1 : zL (zz kd q) = c - 6 := e1
    have e2 : zL (zz kd (q + 1)) = c - 6 + 1 := e2
    have hs : zS (zz kd q) = 7 := by
      obtain ⟨s, h1, h2, e, _⟩ := h.st hq
      rw [e, zA_L] at e2
      split at e2
      · next y => exact y.1
      · omega
    obtain ⟨k2, r1, st6, t6, t89⟩ := h.s7 hq hs
    have hq1 : q + 1 < N := by
      rcases Nat.lt_or_ge (q + 1) N with z | z
      · exact z
      · have : q + 1 = N := by omega
        rw [this, hN] at st6
        omega
    obtain ⟨s, h1, h2, e, _⟩ := h.st hq1
    have k13 := (zac h2 h1).2.2.2.2.2.2.1 st6
    exact ⟨q + 1, hq1, k13.1, by unfold ownZ; rw [if_neg (by omega), e2]; omega⟩
end TX0
