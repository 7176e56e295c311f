/-! the machine keeps its bounds; x keeps tokens -/
theorem zW_s {z : ZT} {k s : Nat} (hz : zW z) (hk : k < 19) (hb : zB (zS z) (zD z) k = some s) (ho : zO z k = false) : zW (zA z k s) := by
  obtain ⟨q, d, t, i, r, l, v, c⟩ := z
  simp only [zW, zS, zD, zT, zI, zR, zL, zV, zK] at hz hb
  obtain ⟨w1, w2, w3, w4, w5, w6, w7, w8, w9, w10, w11, w12, w13, w14, w15, w16, w17, w18⟩ := hz
  have hq : q = 0 ∨ q = 1 ∨ q = 2 ∨ q = 3 ∨ q = 4 ∨ q = 5 ∨ q = 6 ∨ q = 7 ∨ q = 8 ∨ q = 9 ∨ q = 10 ∨ q = 11 ∨ q = 12 := by omega
  rcases hq with rfl | rfl | rfl | rfl | rfl | rfl | rfl | rfl | rfl | rfl | rfl | rfl | rfl
  · have hb : (if k = 4 ∨ k = 5 then some 1 else (if k = 6 then some 3 else (if k = 8 ∨ k = 9 then some 7 else (if k = 10 then some 8 else (none : Option Nat))))) = some s := hb
    have y9 := w9 (by decide)
    by_cases c1 : k = 4 ∨ k = 5
    · rw [if_pos c1] at hb
      cases hb
      rcases c1 with rfl | rfl
      · have ho := of_decide_eq_false (show decide (5 ≤ i) = false from ho)
        show zW (1, d, 4, i, r, l, v, c)
        simp only [zW, zS, zD, zT, zI, zR, zL, zV, zK]; exact ⟨by omega, by omega, by omega, by omega, by omega, by omega, by omega, by omega, fun hh => by first | omega | simp | (simp at hh), fun hh => by first | omega | simp | (simp at hh), fun hh => by first | omega | simp | (simp at hh), fun hh => by first | omega | simp | (simp at hh), fun hh => by first | omega | simp | (simp at hh), fun hh => by first | omega | simp | (simp at hh), fun hh => by first | omega | simp | (simp at hh), fun hh => by first | omega | simp | (simp at hh), fun hh => by first | omega | simp | (simp at hh), fun hh => by first | omega | simp | (simp at hh)⟩
      · have ho := of_decide_eq_false (show decide (5 ≤ i) = false from ho)
        show zW (1, d, 5, i, r, l, v, c)
        simp only [zW, zS, zD, zT, zI, zR, zL, zV, zK]; exact ⟨by omega, by omega, by omega, by omega, by omega, by omega, by omega, by omega, fun hh => by first | omega | simp | (simp at hh), fun hh => by first | omega | simp | (simp at hh), fun hh => by first | omega | simp | (simp at hh), fun hh => by first | omega | simp | (simp at hh), fun hh => by first | omega | simp | (simp at hh), fun hh => by first | omega | simp | (simp at hh), fun hh => by first | omega | simp | (simp at hh), fun hh => by first | omega | simp | (simp at hh), fun hh => by first | omega | simp | (simp at hh), fun hh => by first | omega | simp | (simp at hh)⟩
    · rw [if_neg c1] at hb
      by_cases c1 : k = 6
      · rw [if_pos c1] at hb
        cases hb
        subst c1
        have ho := of_decide_eq_false (show decide (6 ≤ r) = false from ho)
        show zW (3, d, 6, i, r, l, v, c)
        simp only [zW, zS, zD, zT, zI, zR, zL, zV, zK]; exact ⟨by omega, by omega, by omega, by omega, by omega, by omega, by omega, by omega, fun hh => by first | omega | simp | (simp at hh), fun hh => by first | omega | simp | (simp at hh), fun hh => by first | omega | simp | (simp at hh), fun hh => by first | omega | simp | (simp at hh), fun hh => by first | omega | simp | (simp at hh), fun hh => by first | omega | simp | (simp at hh), fun hh => by first | omega | simp | (simp at hh), fun hh => by first | omega | simp | (simp at hh), fun hh => by first | omega | simp | (simp at hh), fun hh => by first | omega | simp | (simp at hh)⟩
      · rw [if_neg c1] at hb
        by_cases c1 : k = 8 ∨ k = 9
        · rw [if_pos c1] at hb
          cases hb
          rcases c1 with rfl | rfl
          · have ho := of_decide_eq_false (show decide (5 ≤ l) = false from ho)
            show zW (7, d, 8, i, r, l, v, c)
            simp only [zW, zS, zD, zT, zI, zR, zL, zV, zK]; exact ⟨by omega, by omega, by omega, by omega, by omega, by omega, by omega, by omega, fun hh => by first | omega | simp | (simp at hh), fun hh => by first | omega | simp | (simp at hh), fun hh => by first | omega | simp | (simp at hh), fun hh => by first | omega | simp | (simp at hh), fun hh => by first | omega | simp | (simp at hh), fun hh => by first | omega | simp | (simp at hh), fun hh => by first | omega | simp | (simp at hh), fun hh => by first | omega | simp | (simp at hh), fun hh => by first | omega | simp | (simp at hh), fun hh => by first | omega | simp | (simp at hh)⟩
          · have ho := of_decide_eq_false (show decide (5 ≤ l) = false from ho)
            show zW (7, d, 9, i, r, l, v, c)
            simp only [zW, zS, zD, zT, zI, zR, zL, zV, zK]; exact ⟨by omega, by omega, by omega, by omega, by omega, by omega, by omega, by omega, fun hh => by first | omega | simp | (simp at hh), fun hh => by first | omega | simp | (simp at hh), fun hh => by first | omega | simp | (simp at hh), fun hh => by first | omega | simp | (simp at hh), fun hh => by first | omega | simp | (simp at hh), fun hh => by first | omega | simp | (simp at hh), fun hh => by first | omega | simp | (simp at hh), fun hh => by first | omega | simp | (simp at hh), fun hh => by first | omega | simp | (simp at hh), fun hh => by first | omega | simp | (simp at hh)⟩
        · rw [if_neg c1] at hb
          by_cases c1 : k = 10
          · rw [if_pos c1] at hb
            cases hb
            subst c1
            have ho := of_decide_eq_false (show decide (6 ≤ v) = false from ho)
            show zW (8, d, 10, i, r, l, v + 1, c)
            simp only [zW, zS, zD, zT, zI, zR, zL, zV, zK]; exact ⟨by omega, by omega, by omega, by omega, by omega, by omega, by omega, by omega, fun hh => by first | omega | simp | (simp at hh), fun hh => by first | omega | simp | (simp at hh), fun hh => by first | omega | simp | (simp at hh), fun hh => by first | omega | simp | (simp at hh), fun hh => by first | omega | simp | (simp at hh), fun hh => by first | omega | simp | (simp at hh), fun hh => by first | omega | simp | (simp at hh), fun hh => by first | omega | simp | (simp at hh), fun hh => by first | omega | simp | (simp at hh), fun hh => by first | omega | simp | (simp at hh)⟩
          · rw [if_neg c1] at hb
            cases hb
  · have hb : (if k = 2 then some 2 else (none : Option Nat)) = some s := hb
    have y9 := w9 (by decide)
    have y10 := w10 (Or.inl rfl)
    by_cases c1 : k = 2
    · rw [if_pos c1] at hb
      cases hb
      subst c1
      show zW (2, d, t, i + 1, r, l, v, c)
      simp only [zW, zS, zD, zT, zI, zR, zL, zV, zK]; exact ⟨by omega, by omega, by omega, by omega, by omega, by omega, by omega, by omega, fun hh => by first | omega | simp | (simp at hh), fun hh => by first | omega | simp | (simp at hh), fun hh => by first | omega | simp | (simp at hh), fun hh => by first | omega | simp | (simp at hh), fun hh => by first | omega | simp | (simp at hh), fun hh => by first | omega | simp | (simp at hh), fun hh => by first | omega | simp | (simp at hh), fun hh => by first | omega | simp | (simp at hh), fun hh => by first | omega | simp | (simp at hh), fun hh => by first | omega | simp | (simp at hh)⟩
    · rw [if_neg c1] at hb
      cases hb
  · have hb : (if k = 12 then some 0 else (none : Option Nat)) = some s := hb
    have y9 := w9 (by decide)
    have y10 := w10 (Or.inr rfl)
    by_cases c1 : k = 12
    · rw [if_pos c1] at hb
      cases hb
      subst c1
      show zW (0, d, t, i, r, l, v, c)
      simp only [zW, zS, zD, zT, zI, zR, zL, zV, zK]; exact ⟨by omega, by omega, by omega, by omega, by omega, by omega, by omega, by omega, fun hh => by first | omega | simp | (simp at hh), fun hh => by first | omega | simp | (simp at hh), fun hh => by first | omega | simp | (simp at hh), fun hh => by first | omega | simp | (simp at hh), fun hh => by first | omega | simp | (simp at hh), fun hh => by first | omega | simp | (simp at hh), fun hh => by first | omega | simp | (simp at hh), fun hh => by first | omega | simp | (simp at hh), fun hh => by first | omega | simp | (simp at hh), fun hh => by first | omega | simp | (simp at hh)⟩
    · rw [if_neg c1] at hb
      cases hb
  · have hb : (if k = 2 then some 4 else (none : Option Nat)) = some s := hb
    have y9 := w9 (by decide)
    have y10 := w11 (Or.inl rfl)
    by_cases c1 : k = 2
    · rw [if_pos c1] at hb
      cases hb
      subst c1
      show zW (4, d, t, i, r + 1, l, v, c)
      simp only [zW, zS, zD, zT, zI, zR, zL, zV, zK]; exact ⟨by omega, by omega, by omega, by omega, by omega, by omega, by omega, by omega, fun hh => by first | omega | simp | (simp at hh), fun hh => by first | omega | simp | (simp at hh), fun hh => by first | omega | simp | (simp at hh), fun hh => by first | omega | simp | (simp at hh), fun hh => by first | omega | simp | (simp at hh), fun hh => by first | omega | simp | (simp at hh), fun hh => by first | omega | simp | (simp at hh), fun hh => by first | omega | simp | (simp at hh), fun hh => by first | omega | simp | (simp at hh), fun hh => by first | omega | simp | (simp at hh)⟩
    · rw [if_neg c1] at hb
      cases hb
  · have hb : (if k = 7 then some 5 else (if k = 13 then some 10 else (none : Option Nat))) = some s := hb
    have y9 := w9 (by decide)
    have y10 := w11 (Or.inr (Or.inl rfl))
    by_cases c1 : k = 7
    · rw [if_pos c1] at hb
      cases hb
      subst c1
      show zW (5, d, t, i, r, l, v, c)
      simp only [zW, zS, zD, zT, zI, zR, zL, zV, zK]; exact ⟨by omega, by omega, by omega, by omega, by omega, by omega, by omega, by omega, fun hh => by first | omega | simp | (simp at hh), fun hh => by first | omega | simp | (simp at hh), fun hh => by first | omega | simp | (simp at hh), fun hh => by first | omega | simp | (simp at hh), fun hh => by first | omega | simp | (simp at hh), fun hh => by first | omega | simp | (simp at hh), fun hh => by first | omega | simp | (simp at hh), fun hh => by first | omega | simp | (simp at hh), fun hh => by first | omega | simp | (simp at hh), fun hh => by first | omega | simp | (simp at hh)⟩
    · rw [if_neg c1] at hb
      by_cases c1 : k = 13
      · rw [if_pos c1] at hb
        cases hb
        subst c1
        show zW (10, d, t, i, r, l, v, c)
        simp only [zW, zS, zD, zT, zI, zR, zL, zV, zK]; exact ⟨by omega, by omega, by omega, by omega, by omega, by omega, by omega, by omega, fun hh => by first | omega | simp | (simp at hh), fun hh => by first | omega | simp | (simp at hh), fun hh => by first | omega | simp | (simp at hh), fun hh => by first | omega | simp | (simp at hh), fun hh => by first | omega | simp | (simp at hh), fun hh => by first | omega | simp | (simp at hh), fun hh => by first | omega | simp | (simp at hh), fun hh => by first | omega | simp | (simp at hh), fun hh => by first | omega | simp | (simp at hh), fun hh => by first | omega | simp | (simp at hh)⟩
      · rw [if_neg c1] at hb
        cases hb
  · have hb : (if k = 3 then some 6 else (none : Option Nat)) = some s := hb
    have y9 := w9 (by decide)
    have y10 := w11 (Or.inr (Or.inr rfl))
    by_cases c1 : k = 3
    · rw [if_pos c1] at hb
      cases hb
      subst c1
      show zW (6, d, t, i, r, l, v, c)
      simp only [zW, zS, zD, zT, zI, zR, zL, zV, zK]; exact ⟨by omega, by omega, by omega, by omega, by omega, by omega, by omega, by omega, fun hh => by first | omega | simp | (simp at hh), fun hh => by first | omega | simp | (simp at hh), fun hh => by first | omega | simp | (simp at hh), fun hh => by first | omega | simp | (simp at hh), fun hh => by first | omega | simp | (simp at hh), fun hh => by first | omega | simp | (simp at hh), fun hh => by first | omega | simp | (simp at hh), fun hh => by first | omega | simp | (simp at hh), fun hh => by first | omega | simp | (simp at hh), fun hh => by first | omega | simp | (simp at hh)⟩
    · rw [if_neg c1] at hb
      cases hb
  · have hb : (if k = 13 then some 10 else (none : Option Nat)) = some s := hb
    have y9 := w9 (by decide)
    have y10 := w12 rfl
    by_cases c1 : k = 13
    · rw [if_pos c1] at hb
      cases hb
      subst c1
      show zW (10, d, t, i, r, l, v, c)
      simp only [zW, zS, zD, zT, zI, zR, zL, zV, zK]; exact ⟨by omega, by omega, by omega, by omega, by omega, by omega, by omega, by omega, fun hh => by first | omega | simp | (simp at hh), fun hh => by first | omega | simp | (simp at hh), fun hh => by first | omega | simp | (simp at hh), fun hh => by first | omega | simp | (simp at hh), fun hh => by first | omega | simp | (simp at hh), fun hh => by first | omega | simp | (simp at hh), fun hh => by first | omega | simp | (simp at hh), fun hh => by first | omega | simp | (simp at hh), fun hh => by first | omega | simp | (simp at hh), fun hh => by first | omega | simp | (simp at hh)⟩
    · rw [if_neg c1] at hb
      cases hb
  · have hb : (if k = 2 then some 6 else (none : Option Nat)) = some s := hb
    have y9 := w9 (by decide)
    have y10 := w13 rfl
    by_cases c1 : k = 2
    · rw [if_pos c1] at hb
      cases hb
      subst c1
      show zW (6, d, t, i, r, l + 1, v, c)
      simp only [zW, zS, zD, zT, zI, zR, zL, zV, zK]; exact ⟨by omega, by omega, by omega, by omega, by omega, by omega, by omega, by omega, fun hh => by first | omega | simp | (simp at hh), fun hh => by first | omega | simp | (simp at hh), fun hh => by first | omega | simp | (simp at hh), fun hh => by first | omega | simp | (simp at hh), fun hh => by first | omega | simp | (simp at hh), fun hh => by first | omega | simp | (simp at hh), fun hh => by first | omega | simp | (simp at hh), fun hh => by first | omega | simp | (simp at hh), fun hh => by first | omega | simp | (simp at hh), fun hh => by first | omega | simp | (simp at hh)⟩
    · rw [if_neg c1] at hb
      cases hb
  · have hb : (if k = 2 then some 9 else (none : Option Nat)) = some s := hb
    have y9 := w9 (by decide)
    have y10 := w14 (Or.inl rfl)
    by_cases c1 : k = 2
    · rw [if_pos c1] at hb
      cases hb
      subst c1
      show zW (9, d, t, i, r, l, v, c)
      simp only [zW, zS, zD, zT, zI, zR, zL, zV, zK]; exact ⟨by omega, by omega, by omega, by omega, by omega, by omega, by omega, by omega, fun hh => by first | omega | simp | (simp at hh), fun hh => by first | omega | simp | (simp at hh), fun hh => by first | omega | simp | (simp at hh), fun hh => by first | omega | simp | (simp at hh), fun hh => by first | omega | simp | (simp at hh), fun hh => by first | omega | simp | (simp at hh), fun hh => by first | omega | simp | (simp at hh), fun hh => by first | omega | simp | (simp at hh), fun hh => by first | omega | simp | (simp at hh), fun hh => by first | omega | simp | (simp at hh)⟩
    · rw [if_neg c1] at hb
      cases hb
  · have hb : (if k = 11 then some 10 else (none : Option Nat)) = some s := hb
    have y9 := w9 (by decide)
    have y10 := w14 (Or.inr rfl)
    by_cases c1 : k = 11
    · rw [if_pos c1] at hb
      cases hb
      subst c1
      show zW (10, d, t, i, r, l, v, c)
      simp only [zW, zS, zD, zT, zI, zR, zL, zV, zK]; exact ⟨by omega, by omega, by omega, by omega, by omega, by omega, by omega, by omega, fun hh => by first | omega | simp | (simp at hh), fun hh => by first | omega | simp | (simp at hh), fun hh => by first | omega | simp | (simp at hh), fun hh => by first | omega | simp | (simp at hh), fun hh => by first | omega | simp | (simp at hh), fun hh => by first | omega | simp | (simp at hh), fun hh => by first | omega | simp | (simp at hh), fun hh => by first | omega | simp | (simp at hh), fun hh => by first | omega | simp | (simp at hh), fun hh => by first | omega | simp | (simp at hh)⟩
    · rw [if_neg c1] at hb
      cases hb
  · have hb : (if k = 2 then some 12 else (if k = 14 then some 11 else (if k = 17 then some 10 else (none : Option Nat)))) = some s := hb
    have y10 := w15 (by decide)
    by_cases c1 : k = 2
    · rw [if_pos c1] at hb
      cases hb
      subst c1
      by_cases ct : t = 10
      · subst ct
        show zW (12, d, 10, i, r, l, v, c)
        simp only [zW, zS, zD, zT, zI, zR, zL, zV, zK]; exact ⟨by omega, by omega, by omega, by omega, by omega, by omega, by omega, by omega, fun hh => by first | omega | simp | (simp at hh), fun hh => by first | omega | simp | (simp at hh), fun hh => by first | omega | simp | (simp at hh), fun hh => by first | omega | simp | (simp at hh), fun hh => by first | omega | simp | (simp at hh), fun hh => by first | omega | simp | (simp at hh), fun hh => by first | omega | simp | (simp at hh), fun hh => by first | omega | simp | (simp at hh), fun hh => by first | omega | simp | (simp at hh), fun hh => by first | omega | simp | (simp at hh)⟩
      · have e : zC (10, d, t, i, r, l, v, c) = true := by show decide (t ≠ 10) = true; exact decide_eq_true ct
        have ho : (zC (10, d, t, i, r, l, v, c) && decide (40 ≤ c)) = false := ho
        rw [e, Bool.true_and] at ho
        have ho := of_decide_eq_false ho
        have e2 : zA (10, d, t, i, r, l, v, c) 2 12 = (12, d, t, i, r, l, v, c + 1) := by show (if zC (10, d, t, i, r, l, v, c) = true then _ else _) = _; rw [if_pos e]; rfl
        rw [e2]
        simp only [zW, zS, zD, zT, zI, zR, zL, zV, zK]; exact ⟨by omega, by omega, by omega, by omega, by omega, by omega, by omega, by omega, fun hh => by first | omega | simp | (simp at hh), fun hh => by first | omega | simp | (simp at hh), fun hh => by first | omega | simp | (simp at hh), fun hh => by first | omega | simp | (simp at hh), fun hh => by first | omega | simp | (simp at hh), fun hh => by first | omega | simp | (simp at hh), fun hh => by first | omega | simp | (simp at hh), fun hh => by first | omega | simp | (simp at hh), fun hh => by first | omega | simp | (simp at hh), fun hh => by first | omega | simp | (simp at hh)⟩
    · rw [if_neg c1] at hb
      by_cases c1 : k = 14
      · rw [if_pos c1] at hb
        cases hb
        subst c1
        show zW (11, d, t, i, r, l, v, c)
        simp only [zW, zS, zD, zT, zI, zR, zL, zV, zK]; exact ⟨by omega, by omega, by omega, by omega, by omega, by omega, by omega, by omega, fun hh => by first | omega | simp | (simp at hh), fun hh => by first | omega | simp | (simp at hh), fun hh => by first | omega | simp | (simp at hh), fun hh => by first | omega | simp | (simp at hh), fun hh => by first | omega | simp | (simp at hh), fun hh => by first | omega | simp | (simp at hh), fun hh => by first | omega | simp | (simp at hh), fun hh => by first | omega | simp | (simp at hh), fun hh => by first | omega | simp | (simp at hh), fun hh => by first | omega | simp | (simp at hh)⟩
      · rw [if_neg c1] at hb
        by_cases c1 : k = 17
        · rw [if_pos c1] at hb
          cases hb
          subst c1
          have ho := of_decide_eq_false (show decide (4 ≤ d) = false from ho)
          show zW (10, d + 1, t, i, r, l, v, c)
          simp only [zW, zS, zD, zT, zI, zR, zL, zV, zK]; exact ⟨by omega, by omega, by omega, by omega, by omega, by omega, by omega, by omega, fun hh => by first | omega | simp | (simp at hh), fun hh => by first | omega | simp | (simp at hh), fun hh => by first | omega | simp | (simp at hh), fun hh => by first | omega | simp | (simp at hh), fun hh => by first | omega | simp | (simp at hh), fun hh => by first | omega | simp | (simp at hh), fun hh => by first | omega | simp | (simp at hh), fun hh => by first | omega | simp | (simp at hh), fun hh => by first | omega | simp | (simp at hh), fun hh => by first | omega | simp | (simp at hh)⟩
        · rw [if_neg c1] at hb
          cases hb
  · have hb : (if k = 2 then some 12 else (none : Option Nat)) = some s := hb
    have y10 := w15 (by decide)
    by_cases c1 : k = 2
    · rw [if_pos c1] at hb
      cases hb
      subst c1
      by_cases ct : t = 10
      · subst ct
        show zW (12, d, 10, i, r, l, v, c)
        simp only [zW, zS, zD, zT, zI, zR, zL, zV, zK]; exact ⟨by omega, by omega, by omega, by omega, by omega, by omega, by omega, by omega, fun hh => by first | omega | simp | (simp at hh), fun hh => by first | omega | simp | (simp at hh), fun hh => by first | omega | simp | (simp at hh), fun hh => by first | omega | simp | (simp at hh), fun hh => by first | omega | simp | (simp at hh), fun hh => by first | omega | simp | (simp at hh), fun hh => by first | omega | simp | (simp at hh), fun hh => by first | omega | simp | (simp at hh), fun hh => by first | omega | simp | (simp at hh), fun hh => by first | omega | simp | (simp at hh)⟩
      · have e : zC (11, d, t, i, r, l, v, c) = true := by show decide (t ≠ 10) = true; exact decide_eq_true ct
        have ho : (zC (11, d, t, i, r, l, v, c) && decide (40 ≤ c)) = false := ho
        rw [e, Bool.true_and] at ho
        have ho := of_decide_eq_false ho
        have e2 : zA (11, d, t, i, r, l, v, c) 2 12 = (12, d, t, i, r, l, v, c + 1) := by show (if zC (11, d, t, i, r, l, v, c) = true then _ else _) = _; rw [if_pos e]; rfl
        rw [e2]
        simp only [zW, zS, zD, zT, zI, zR, zL, zV, zK]; exact ⟨by omega, by omega, by omega, by omega, by omega, by omega, by omega, by omega, fun hh => by first | omega | simp | (simp at hh), fun hh => by first | omega | simp | (simp at hh), fun hh => by first | omega | simp | (simp at hh), fun hh => by first | omega | simp | (simp at hh), fun hh => by first | omega | simp | (simp at hh), fun hh => by first | omega | simp | (simp at hh), fun hh => by first | omega | simp | (simp at hh), fun hh => by first | omega | simp | (simp at hh), fun hh => by first | omega | simp | (simp at hh), fun hh => by first | omega | simp | (simp at hh)⟩
    · rw [if_neg c1] at hb
      cases hb
  · have hb : (if k = 15 ∨ k = 16 then some 10 else (if k = 18 ∧ 0 < d then some 12 else (if k = 12 ∧ d = 0 then some 0 else (none : Option Nat)))) = some s := hb
    have y10 := w15 (by decide)
    by_cases c1 : k = 15 ∨ k = 16
    · rw [if_pos c1] at hb
      cases hb
      rcases c1 with rfl | rfl
      · show zW (10, d, t, i, r, l, v, c)
        simp only [zW, zS, zD, zT, zI, zR, zL, zV, zK]; exact ⟨by omega, by omega, by omega, by omega, by omega, by omega, by omega, by omega, fun hh => by first | omega | simp | (simp at hh), fun hh => by first | omega | simp | (simp at hh), fun hh => by first | omega | simp | (simp at hh), fun hh => by first | omega | simp | (simp at hh), fun hh => by first | omega | simp | (simp at hh), fun hh => by first | omega | simp | (simp at hh), fun hh => by first | omega | simp | (simp at hh), fun hh => by first | omega | simp | (simp at hh), fun hh => by first | omega | simp | (simp at hh), fun hh => by first | omega | simp | (simp at hh)⟩
      · show zW (10, d, t, i, r, l, v, c)
        simp only [zW, zS, zD, zT, zI, zR, zL, zV, zK]; exact ⟨by omega, by omega, by omega, by omega, by omega, by omega, by omega, by omega, fun hh => by first | omega | simp | (simp at hh), fun hh => by first | omega | simp | (simp at hh), fun hh => by first | omega | simp | (simp at hh), fun hh => by first | omega | simp | (simp at hh), fun hh => by first | omega | simp | (simp at hh), fun hh => by first | omega | simp | (simp at hh), fun hh => by first | omega | simp | (simp at hh), fun hh => by first | omega | simp | (simp at hh), fun hh => by first | omega | simp | (simp at hh), fun hh => by first | omega | simp | (simp at hh)⟩
    · rw [if_neg c1] at hb
      by_cases c1 : k = 18 ∧ 0 < d
      · rw [if_pos c1] at hb
        cases hb
        obtain ⟨rfl, c2⟩ := c1
        show zW (12, d - 1, t, i, r, l, v, c)
        simp only [zW, zS, zD, zT, zI, zR, zL, zV, zK]; exact ⟨by omega, by omega, by omega, by omega, by omega, by omega, by omega, by omega, fun hh => by first | omega | simp | (simp at hh), fun hh => by first | omega | simp | (simp at hh), fun hh => by first | omega | simp | (simp at hh), fun hh => by first | omega | simp | (simp at hh), fun hh => by first | omega | simp | (simp at hh), fun hh => by first | omega | simp | (simp at hh), fun hh => by first | omega | simp | (simp at hh), fun hh => by first | omega | simp | (simp at hh), fun hh => by first | omega | simp | (simp at hh), fun hh => by first | omega | simp | (simp at hh)⟩
      · rw [if_neg c1] at hb
        by_cases c1 : k = 12 ∧ d = 0
        · rw [if_pos c1] at hb
          cases hb
          obtain ⟨rfl, c2⟩ := c1
          show zW (0, d, t, i, r, l, v, c)
          simp only [zW, zS, zD, zT, zI, zR, zL, zV, zK]; exact ⟨by omega, by omega, by omega, by omega, by omega, by omega, by omega, by omega, fun hh => by first | omega | simp | (simp at hh), fun hh => by first | omega | simp | (simp at hh), fun hh => by first | omega | simp | (simp at hh), fun hh => by first | omega | simp | (simp at hh), fun hh => by first | omega | simp | (simp at hh), fun hh => by first | omega | simp | (simp at hh), fun hh => by first | omega | simp | (simp at hh), fun hh => by first | omega | simp | (simp at hh), fun hh => by first | omega | simp | (simp at hh), fun hh => by first | omega | simp | (simp at hh)⟩
        · rw [if_neg c1] at hb
          cases hb
theorem zok_s {kd : Nat → Nat} (hkd : ∀ i, kd i < 19) {i : Nat} (hz : zW (zz kd i)) (h : zok kd i) : ∃ s, zB (zS (zz kd i)) (zD (zz kd i)) (kd i) = some s ∧ zz kd (i + 1) = zA (zz kd i) (kd i) s ∧ zW (zz kd (i + 1)) := by
  obtain ⟨_, ⟨s, hs⟩, ho⟩ := h
  refine ⟨s, hs, ?_, ?_⟩
  · show zA _ _ _ = _
    rw [hs]
    rfl
  · show zW (zA _ _ _)
    rw [hs]
    exact zW_s hz (hkd i) hs ho
theorem zW_all {kd : Nat → Nat} (hkd : ∀ i, kd i < 19) : ∀ {i : Nat}, (∀ j, j < i → zok kd j) → zW (zz kd i)
  | 0, _ => zW_0
  | i + 1, h => by
    obtain ⟨_, _, _, hw⟩ := zok_s hkd (zW_all hkd (fun j hj => h j (by omega))) (h i (Nat.lt_succ_self i))
    exact hw
/-- which roles tell a name -/
def zN (s : Nat) : Bool := decide (s = 1) || (decide (s = 3) || decide (s = 7))
/-- the tokens ahead of i that tell names, in their order -/
def toL (kd : Nat → Nat) (i : Nat) : List Nat := (List.range i).filter (fun j => zN (zS (zz kd j)))
theorem toL_s (kd : Nat → Nat) (i : Nat) : toL kd (i + 1) = if zN (zS (zz kd i)) = true then toL kd i ++ [i] else toL kd i := by
  unfold toL
  rw [List.range_succ, List.filter_append]
  split
  · next h => rw [List.filter_cons_of_pos (p := fun j => zN (zS (zz kd j))) h]; rfl
  · next h => rw [List.filter_cons_of_neg (p := fun j => zN (zS (zz kd j))) h]; exact List.append_nil _
/-- the number of what a token tells -/
def zNo (z : ZT) : Nat := if zS z = 1 then zI z else if zS z = 3 then zR z else zL z
theorem getD_app {l : List Nat} {x d k : Nat} : (l ++ [x]).getD k d = if k < l.length then l.getD k d else if k = l.length then x else d := by
  rw [List.getD_eq_getElem?_getD, List.getD_eq_getElem?_getD, List.getElem?_append]
  split
  · rfl
  · split
    · next h => rw [h, Nat.sub_self]; rfl
    · next h1 h2 =>
      have : k - l.length = (k - l.length - 1) + 1 := by omega
      rw [this]
      rfl
/-- x's rows when tokens 0 .. i - 1 are kept -/
def rwA (h : AH) (r i : Nat) (kd pl : Nat → Nat) (vl : Nat → Int64) (cf : Nat → Int32) : Prop := ∃ (g4 g5 g6 g8 : Nat → Int32) (g7 : Nat → Int64), h (r + 4) = some (.inl (0, 400, .inl g4)) ∧ h (r + 5) = some (.inl (0, 400, .inl g5)) ∧ h (r + 6) = some (.inl (0, 400, .inl g6)) ∧ h (r + 7) = some (.inl (1, 400, .inr (.inl g7))) ∧ h (r + 8) = some (.inl (0, 400, .inl g8)) ∧ ∀ j, j < i → g4 j = nI (kd j) ∧ g5 j = nI (zS (zz kd j)) ∧ g6 j = nI (pl j) ∧ g7 j = vl j ∧ g8 j = cf j
/-- and those that tell names -/
def rwB (h : AH) (r : Nat) (kd : Nat → Nat) (vl : Nat → Int64) (L : List Nat) : Prop := ∃ (g10 g11 : Nat → Int32) (g9 : Nat → Int64), h (r + 9) = some (.inl (1, 16, .inr (.inl g9))) ∧ h (r + 10) = some (.inl (0, 16, .inl g10)) ∧ h (r + 11) = some (.inl (0, 16, .inl g11)) ∧ ∀ m, m < L.length → g9 m = vl (L.getD m 0) ∧ g10 m = nI (zT (zz kd (L.getD m 0))) ∧ g11 m = nI (zNo (zz kd (L.getD m 0)))
theorem rwA.ag {h h' : AH} {r i : Nat} {kd pl : Nat → Nat} {vl : Nat → Int64} {cf : Nat → Int32} (H : rwA h r i kd pl vl cf) (hs : ∀ x, r + 4 ≤ x → x < r + 9 → h' x = h x) : rwA h' r i kd pl vl cf := by
  obtain ⟨g4, g5, g6, g8, g7, e4, e5, e6, e7, e8, p⟩ := H
  exact ⟨g4, g5, g6, g8, g7, (hs _ (by omega) (by omega)).trans e4, (hs _ (by omega) (by omega)).trans e5, (hs _ (by omega) (by omega)).trans e6, (hs _ (by omega) (by omega)).trans e7, (hs _ (by omega) (by omega)).trans e8, p⟩
theorem rwB.ag {h h' : AH} {r : Nat} {kd : Nat → Nat} {vl : Nat → Int64} {L : List Nat} (H : rwB h r kd vl L) (hs : ∀ x, r + 9 ≤ x → x < r + 12 → h' x = h x) : rwB h' r kd vl L := by
  obtain ⟨g10, g11, g9, e9, e10, e11, p⟩ := H
  exact ⟨g10, g11, g9, (hs _ (by omega) (by omega)).trans e9, (hs _ (by omega) (by omega)).trans e10, (hs _ (by omega) (by omega)).trans e11, p⟩
theorem to_len {kd : Nat → Nat} (hkd : ∀ i, kd i < 19) : ∀ {i : Nat}, (∀ j, j < i → zok kd j) → (toL kd i).length = zI (zz kd i) + zR (zz kd i) + zL (zz kd i)
  | 0, _ => rfl
  | i + 1, h => by
    have ih := to_len hkd (fun j hj => h j (show j < i + 1 by omega)) (i := i)
    have hz := zW_all hkd (fun j hj => h j (show j < i + 1 by omega)) (i := i)
    obtain ⟨s, hs, e, _⟩ := zok_s hkd hz (h i (Nat.lt_succ_self i))
    rw [toL_s, e]
    have hw1 := hz.1
    generalize zz kd i = z at *
    obtain ⟨q, d, t, a, b, l, v, c⟩ := z
    have hq : q = 1 ∨ q = 3 ∨ q = 7 ∨ (q ≠ 1 ∧ q ≠ 3 ∧ q ≠ 7) := by omega
    have one : ∀ {P : Prop} [Decidable P] {x : Nat}, (if P then some x else none) = some s → P := fun {P} _ {x} h => by
      by_cases c : P
      · exact c
      · rw [if_neg c] at h; cases h
    rcases hq with rfl | rfl | rfl | ⟨n1, n3, n7⟩
    · have hk : kd i = 2 := one (x := 2) hs
      rw [if_pos (show zN (zS (1, d, t, a, b, l, v, c)) = true from rfl), List.length_append, ih, hk]
      show a + b + l + 1 = a + 1 + b + l
      omega
    · have hk : kd i = 2 := one (x := 4) hs
      rw [if_pos (show zN (zS (3, d, t, a, b, l, v, c)) = true from rfl), List.length_append, ih, hk]
      show a + b + l + 1 = a + (b + 1) + l
      omega
    · have hk : kd i = 2 := one (x := 6) hs
      rw [if_pos (show zN (zS (7, d, t, a, b, l, v, c)) = true from rfl), List.length_append, ih, hk]
      show a + b + l + 1 = a + b + (l + 1)
      omega
    · rw [if_neg (by show ¬ zN q = true; unfold zN; rw [decide_eq_false n1, decide_eq_false n3, decide_eq_false n7]; decide), ih]
      have : ∀ x : ZT, zI x = a → zR x = b → zL x = l → a + b + l = zI x + zR x + zL x := fun x h1 h2 h3 => by rw [h1, h2, h3]
      refine this _ ?_ ?_ ?_ <;>
      · unfold zA
        repeat' split
        all_goals first | rfl | (exfalso; first | exact n1 (by assumption) | exact n3 (by assumption) | exact n7 (by assumption))
theorem zB_lt {s d k q : Nat} (hs : s < 13) (h : zB s d k = some q) : q < 13 := by
  have hq : s = 0 ∨ s = 1 ∨ s = 2 ∨ s = 3 ∨ s = 4 ∨ s = 5 ∨ s = 6 ∨ s = 7 ∨ s = 8 ∨ s = 9 ∨ s = 10 ∨ s = 11 ∨ s = 12 := by omega
  rcases hq with rfl | rfl | rfl | rfl | rfl | rfl | rfl | rfl | rfl | rfl | rfl | rfl | rfl
  · have h : (if k = 4 ∨ k = 5 then some 1 else (if k = 6 then some 3 else (if k = 8 ∨ k = 9 then some 7 else (if k = 10 then some 8 else (none : Option Nat))))) = some q := h
    repeat' split at h
    all_goals first | (cases h; done) | (cases h; decide)
  · have h : (if k = 2 then some 2 else (none : Option Nat)) = some q := h
    repeat' split at h
    all_goals first | (cases h; done) | (cases h; decide)
  · have h : (if k = 12 then some 0 else (none : Option Nat)) = some q := h
    repeat' split at h
    all_goals first | (cases h; done) | (cases h; decide)
  · have h : (if k = 2 then some 4 else (none : Option Nat)) = some q := h
    repeat' split at h
    all_goals first | (cases h; done) | (cases h; decide)
  · have h : (if k = 7 then some 5 else (if k = 13 then some 10 else (none : Option Nat))) = some q := h
    repeat' split at h
    all_goals first | (cases h; done) | (cases h; decide)
  · have h : (if k = 3 then some 6 else (none : Option Nat)) = some q := h
    repeat' split at h
    all_goals first | (cases h; done) | (cases h; decide)
  · have h : (if k = 13 then some 10 else (none : Option Nat)) = some q := h
    repeat' split at h
    all_goals first | (cases h; done) | (cases h; decide)
  · have h : (if k = 2 then some 6 else (none : Option Nat)) = some q := h
    repeat' split at h
    all_goals first | (cases h; done) | (cases h; decide)
  · have h : (if k = 2 then some 9 else (none : Option Nat)) = some q := h
    repeat' split at h
    all_goals first | (cases h; done) | (cases h; decide)
  · have h : (if k = 11 then some 10 else (none : Option Nat)) = some q := h
    repeat' split at h
    all_goals first | (cases h; done) | (cases h; decide)
  · have h : (if k = 2 then some 12 else (if k = 14 then some 11 else (if k = 17 then some 10 else (none : Option Nat)))) = some q := h
    repeat' split at h
    all_goals first | (cases h; done) | (cases h; decide)
  · have h : (if k = 2 then some 12 else (none : Option Nat)) = some q := h
    repeat' split at h
    all_goals first | (cases h; done) | (cases h; decide)
  · have h : (if k = 15 ∨ k = 16 then some 10 else (if k = 18 ∧ 0 < d then some 12 else (if k = 12 ∧ d = 0 then some 0 else (none : Option Nat)))) = some q := h
    repeat' split at h
    all_goals first | (cases h; done) | (cases h; decide)
