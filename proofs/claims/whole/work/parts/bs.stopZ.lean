/-! where a text stops; places grow -/
theorem zEnd_eq {kd : Nat → Nat} {N j : Nat} (hkd : ∀ i, kd i < 19) (hE : zEnd kd N) (ha : ∀ i, i < j → zok kd i) (hj : kd j = 0 ∨ ¬ zok kd j) : N = j := by
  rcases Nat.lt_trichotomy N j with z | z | z
  · exfalso
    have ok := ha N z
    rcases hE.2 with e | e
    · exact zok_0 (zW_all hkd (fun i hi => ha i (by omega))).1 ok e
    · exact e ok
  · exact z
  · exfalso
    have ok := hE.1 j z
    rcases hj with e | e
    · exact zok_0 (zW_all hkd (fun i hi => hE.1 i (by omega))).1 ok e
    · exact e ok
/-- a token that may not stand where it stands -/
theorem stop_1 {kd : Nat → Nat} {N j : Nat} (hkd : ∀ i, kd i < 19) (hE : zEnd kd N) (ha : ∀ i, i < j → zok kd i) (hb : zB (zS (zz kd j)) (zD (zz kd j)) (kd j) = none) (h0 : kd j = 0 → zS (zz kd j) ≠ 0) : N = j ∧ zFt kd N = 1 := by
  have e : N = j := zEnd_eq hkd hE ha (Or.inr (fun z => by
    obtain ⟨_, ⟨s, hs⟩, _⟩ := z
    rw [hb] at hs
    cases hs))
  refine ⟨e, ?_⟩
  rw [e]
  unfold zFt
  by_cases c : kd j = 0
  · rw [if_pos c, if_neg (h0 c)]
  · rw [if_neg c, hb]
    rfl
/-- a token for which there is no room -/
theorem stop_2 {kd : Nat → Nat} {N j s : Nat} (hkd : ∀ i, kd i < 19) (hE : zEnd kd N) (ha : ∀ i, i < j → zok kd i) (hb : zB (zS (zz kd j)) (zD (zz kd j)) (kd j) = some s) (h0 : 400 ≤ j ∨ zO (zz kd j) (kd j) = true) : N = j ∧ zFt kd N = 2 := by
  have hs := (zW_all hkd ha).1
  have k0 : kd j ≠ 0 := fun e => by
    rw [e, zB_0 hs] at hb
    cases hb
  have e : N = j := zEnd_eq hkd hE ha (Or.inr (fun z => by
    obtain ⟨a, _, b⟩ := z
    rcases h0 with z | z
    · omega
    · rw [b] at z; cases z))
  refine ⟨e, ?_⟩
  rw [e]
  unfold zFt
  rw [if_neg k0, hb]
  rfl
/-- a token that may stand where it stands, with room, is read -/
theorem zok_k {kd : Nat → Nat} {N j s : Nat} (hE : zEnd kd N) (hkd : ∀ i, kd i < 19) (ha : ∀ i, i < j → zok kd i) (hj : j < 400) (hb : zB (zS (zz kd j)) (zD (zz kd j)) (kd j) = some s) (ho : zO (zz kd j) (kd j) = false) : j < N ∧ zok kd j ∧ (∀ i, i < j + 1 → zok kd i) ∧ zz kd (j + 1) = zA (zz kd j) (kd j) s := by
  have ok : zok kd j := ⟨hj, ⟨s, hb⟩, ho⟩
  have all : ∀ i, i < j + 1 → zok kd i := fun i hi => by
    by_cases e : i = j
    · rw [e]; exact ok
    · exact ha i (by omega)
  refine ⟨?_, ok, all, ?_⟩
  · rcases Nat.lt_or_ge j N with z | z
    · exact z
    · exfalso
      have okN := all N (by omega)
      rcases hE.2 with e | e
      · exact zok_0 (zW_all hkd (fun i hi => all i (by omega))).1 okN e
      · exact e okN
  · show zA (zz kd j) (kd j) ((zB (zS (zz kd j)) (zD (zz kd j)) (kd j)).getD 0) = _
    rw [hb]
    rfl
theorem tkB_pl (u : Nat → Nat) (n p : Nat) : (tkB u n p).2.1 = p := by
  unfold tkB
  split
  · rfl
  · split
    · rfl
    · split <;> rfl
theorem tkB_end {u : Nat → Nat} {n p : Nat} (h : (tkB u n p).1 ≠ 0) : p < (tkB u n p).2.2.2 := by
  unfold tkB at h ⊢
  by_cases c1 : n ≤ p
  · rw [if_pos c1] at h; exact absurd rfl h
  · rw [if_neg c1]
    by_cases c2 : cL (u p) = true
    · rw [if_pos c2]
      have h1 := rL_s (c := cL) (u := u) (n := n) (a := p) (by omega) c2
      show p < p + rL cL u n p
      omega
    · rw [if_neg c2]
      by_cases c3 : cD (u p) = true
      · rw [if_pos c3]
        have h1 := rL_s (c := cD) (u := u) (n := n) (a := p) (by omega) c3
        show p < p + rL cD u n p
        omega
      · rw [if_neg c3]
        show p < p + 1
        omega
theorem plN_s {u : Nat → Nat} {n i : Nat} (h : kdN u n i ≠ 0) : plN u n i < plN u n (i + 1) := by
  have h : (tkB u n (skB u n (psN u n i))).1 ≠ 0 := h
  have e := tkB_end h
  show (tkB u n (skB u n (psN u n i))).2.1 < (tkB u n (skB u n (tkB u n (skB u n (psN u n i))).2.2.2)).2.1
  rw [tkB_pl, tkB_pl]
  unfold skB at e ⊢
  omega
theorem plN_m {u : Nat → Nat} {n j : Nat} : ∀ {i : Nat}, i < j → (∀ k, i ≤ k → k < j → kdN u n k ≠ 0) → plN u n i < plN u n j := by
  induction j with
  | zero => intro i h _; exact absurd h (Nat.not_lt_zero i)
  | succ j ih =>
    intro i h hk
    have h1 := plN_s (hk j (by omega) (Nat.lt_succ_self j))
    by_cases e : i = j
    · rw [e]; exact h1
    · exact Nat.lt_trans (ih (by omega) (fun k k1 k2 => hk k k1 (by omega))) h1
