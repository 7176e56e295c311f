/-! the model works out where each state settles -/
theorem mvF_lt {nR sh st up : Nat} {sl : Nat → Nat} (hs : ∀ r, r < nR → sl r < 10) : mvF nR sl sh st up < 2 ^ nR := by
  have hd : dueN nR sh st up < 2 ^ nR := by
    unfold dueN
    have h1 : (up ^^^ sh) &&& (2 ^ nR - 1) < 2 ^ nR := Nat.lt_of_le_of_lt Nat.and_le_right (Nat.sub_lt (Nat.two_pow_pos nR) (by decide))
    exact Nat.xor_lt_two_pow h1 (Nat.lt_of_le_of_lt Nat.and_le_left h1)
  have hq : qkN nR sh st up < 2 ^ nR := Nat.xor_lt_two_pow hd (Nat.lt_of_le_of_lt Nat.and_le_left hd)
  have hl := (lsF_1 (drB nR sh st up) sl nR hs nR (Nat.le_refl _)).2
  unfold mvF
  split
  · refine Nat.or_lt_two_pow hq ?_
    unfold zF
    split
    · exact hl
    · exact Nat.two_pow_pos nR
  · exact hl
theorem isN_lt {nx : Nat → Nat} {nR u v : Nat} (hu : u < 2 ^ nR) (h : isN nx nR u v) : v < 2 ^ nR := by
  obtain ⟨r, hr, _, rfl⟩ := h
  exact Nat.xor_lt_two_pow hu (Nat.pow_lt_pow_right (by decide) hr)
theorem ST_lt {nx : Nat → Nat} {nR : Nat} (hnx : ∀ u, nx u < 2 ^ nR) : ∀ {n u s : Nat}, u < 2 ^ nR → TS nx nR n u s → s < 2 ^ nR
  | 0, u, s, hu, h => h.2 ▸ hu
  | n + 1, u, s, hu, h => by
    rcases h with h | h
    · exact ST_lt hnx hu h
    · obtain ⟨v, hv⟩ := isN_ex h.1 (hnx u)
      exact ST_lt hnx (isN_lt hu hv) (h.2 v hv)
/-- what the row of states says so far: not known yet (-3), where it settles, or that it doesn't (-2) -/
def WI (nx : Nat → Nat) (nR B : Nat) (g : Nat → Int32) : Prop := ∀ u, u < 2 ^ nR → (g (B + u) = -3 ∧ nx u ≠ 0) ∨ (∃ s, s < 2 ^ nR ∧ g (B + u) = nI s ∧ ST nx nR u s) ∨ (g (B + u) = -2 ∧ ∀ s, ¬ ST nx nR u s)
theorem nI_n2 {s : Nat} (h : s < 64) : nI s ≠ -2 ∧ nI s ≠ -3 ∧ nI s ≠ -1 := (by decide : ∀ s, s < 64 → nI s ≠ -2 ∧ nI s ≠ -3 ∧ nI s ≠ -1) s h
/-- how many are not known yet -/
def cntO (B : Nat) (g : Nat → Int32) : Nat → Nat
  | 0 => 0
  | j + 1 => cntO B g j + (if g (B + j) = -3 then 1 else 0)
theorem cntO_le (B : Nat) (g : Nat → Int32) : ∀ j, cntO B g j ≤ j
  | 0 => Nat.le_refl 0
  | j + 1 => by
    have := cntO_le B g j
    unfold cntO
    split <;> omega
theorem cntO_upd {B u : Nat} {g : Nat → Int32} {x : Int32} (hx : x ≠ -3) (hg : g (B + u) = -3) : ∀ j, (j ≤ u → cntO B (upd g (B + u) x) j = cntO B g j) ∧ (u < j → cntO B (upd g (B + u) x) j + 1 = cntO B g j)
  | 0 => ⟨fun _ => rfl, fun h => absurd h (Nat.not_lt_zero u)⟩
  | j + 1 => by
    have ih := cntO_upd (x := x) hx hg j
    constructor
    · intro h
      unfold cntO
      rw [ih.1 (by omega), show upd g (B + u) x (B + j) = g (B + j) from pk_un (by omega)]
    · intro h
      unfold cntO
      by_cases e : j = u
      · subst e
        rw [ih.1 (Nat.le_refl _), show upd g (B + j) x (B + j) = x from pk_us, if_neg hx, if_pos hg]
      · rw [show upd g (B + u) x (B + j) = g (B + j) from pk_un (by omega)]
        have := ih.2 (by omega)
        omega
/-- the fold over a state's next ones -/
def toF (n : Nat) (e : Nat → Int32) : Nat → Int32
  | 0 => -1
  | j + 1 => if n.testBit j = true then (if toF n e j = -1 ∨ toF n e j = e j then e j else -2) else toF n e j
def knF (n : Nat) (e : Nat → Int32) : Nat → Bool
  | 0 => true
  | j + 1 => if n.testBit j = true then (knF n e j && decide (e j ≠ -3)) else knF n e j
theorem knF_all {n : Nat} {e : Nat → Int32} : ∀ {j : Nat}, knF n e j = true → ∀ r, r < j → n.testBit r = true → e r ≠ -3
  | j + 1, h, r, hr, hb => by
    unfold knF at h
    by_cases ej : r = j
    · subst ej
      rw [if_pos hb, Bool.and_eq_true, decide_eq_true_eq] at h
      exact h.2
    · split at h
      · rw [Bool.and_eq_true] at h
        exact knF_all h.1 r (by omega) hb
      · exact knF_all h r (by omega) hb
theorem knF_no {n : Nat} {e : Nat → Int32} : ∀ {j : Nat}, knF n e j = false → ∃ r, r < j ∧ n.testBit r = true ∧ e r = -3
  | j + 1, h => by
    unfold knF at h
    split at h
    · next hb =>
      cases hk : knF n e j
      · obtain ⟨r, h1, h2⟩ := knF_no hk
        exact ⟨r, by omega, h2⟩
      · rw [hk, Bool.true_and, decide_eq_false_iff_not, Decidable.not_not] at h
        exact ⟨j, by omega, hb, h⟩
    · obtain ⟨r, h1, h2⟩ := knF_no h
      exact ⟨r, by omega, h2⟩
theorem toF_ok {nx : Nat → Nat} {nR B u : Nat} {g : Nat → Int32} (hR6 : nR ≤ 6) (hnx : ∀ u, nx u < 2 ^ nR) (hu : u < 2 ^ nR) (hW : WI nx nR B g) (hk : knF (nx u) (fun r => g (B + (u ^^^ 2 ^ r))) nR = true) : ∀ j, j ≤ nR →
    (toF (nx u) (fun r => g (B + (u ^^^ 2 ^ r))) j = -1 ∧ ∀ r, r < j → (nx u).testBit r = false) ∨ (∃ s, s < 2 ^ nR ∧ toF (nx u) (fun r => g (B + (u ^^^ 2 ^ r))) j = nI s ∧ (∀ r, r < j → (nx u).testBit r = true → ST nx nR (u ^^^ 2 ^ r) s) ∧ ∃ r, r < j ∧ (nx u).testBit r = true) ∨ (toF (nx u) (fun r => g (B + (u ^^^ 2 ^ r))) j = -2 ∧ ∀ s, ¬ ST nx nR u s) := by
  have hp : 2 ^ nR ≤ 64 := Nat.pow_le_pow_right (n := 2) (by decide) hR6
  intro j
  induction j with
  | zero => intro _; exact Or.inl ⟨rfl, fun r hr => absurd hr (Nat.not_lt_zero r)⟩
  | succ j ih =>
    intro hj
    have ih := ih (by omega)
    cases hb : (nx u).testBit j
    · rw [show toF (nx u) (fun r => g (B + (u ^^^ 2 ^ r))) (j + 1) = toF (nx u) (fun r => g (B + (u ^^^ 2 ^ r))) j from if_neg (by rw [hb]; decide)]
      rcases ih with ⟨h1, h2⟩ | ⟨s, hs, h1, h2, r, hr, hr2⟩ | h1
      · refine Or.inl ⟨h1, fun r hr => ?_⟩
        by_cases e : r = j
        · rw [e]; exact hb
        · exact h2 r (by omega)
      · refine Or.inr (Or.inl ⟨s, hs, h1, fun r hr hr2 => ?_, r, by omega, hr2⟩)
        by_cases e : r = j
        · rw [e, hb] at hr2; cases hr2
        · exact h2 r (by omega) hr2
      · exact Or.inr (Or.inr h1)
    · have hN : isN nx nR u (u ^^^ 2 ^ j) := ⟨j, by omega, hb, rfl⟩
      have hv := isN_lt hu hN
      have he3 : g (B + (u ^^^ 2 ^ j)) ≠ -3 := knF_all hk j (by omega) hb
      rw [show toF (nx u) (fun r => g (B + (u ^^^ 2 ^ r))) (j + 1) = (if toF (nx u) (fun r => g (B + (u ^^^ 2 ^ r))) j = -1 ∨ toF (nx u) (fun r => g (B + (u ^^^ 2 ^ r))) j = g (B + (u ^^^ 2 ^ j)) then g (B + (u ^^^ 2 ^ j)) else -2) from if_pos hb]
      rcases hW _ hv with hw | ⟨t, ht, hw, hst⟩ | ⟨hw, hno⟩
      · exact absurd hw.1 he3
      · rcases ih with ⟨h1, h2⟩ | ⟨s, hs, h1, h2, r, hr, hr2⟩ | ⟨h1, h2⟩
        · rw [h1, if_pos (Or.inl rfl)]
          refine Or.inr (Or.inl ⟨t, ht, hw, fun r hr hr2 => ?_, j, by omega, hb⟩)
          by_cases e : r = j
          · rw [e]; exact hst
          · rw [h2 r (by omega)] at hr2; cases hr2
        · by_cases e : s = t
          · subst e
            rw [h1, if_pos (Or.inr hw.symm)]
            refine Or.inr (Or.inl ⟨s, hs, hw, fun r hr hr2 => ?_, j, by omega, hb⟩)
            by_cases e : r = j
            · rw [e]; exact hst
            · exact h2 r (by omega) hr2
          · rw [h1, hw, if_neg (fun z => z.elim (fun z => (nI_n2 (by omega)).2.2 z) (fun z => e ((nI_eq (by omega) (by omega)).mp z)))]
            refine Or.inr (Or.inr ⟨rfl, fun q hq => e ?_⟩)
            rw [ST.one hnx (h2 r hr hr2) (hq.next ⟨r, by omega, hr2, rfl⟩), ST.one hnx hst (hq.next hN)]
        · refine Or.inr (Or.inr ⟨?_, h2⟩)
          rw [h1, hw, if_neg (fun z => z.elim (fun z => absurd z (by decide)) (fun z => (nI_n2 (s := t) (by omega)).1 z.symm))]
      · have hnu : ∀ s, ¬ ST nx nR u s := fun s hs => hno s (hs.next hN)
        refine Or.inr (Or.inr ⟨?_, hnu⟩)
        rw [hw]
        split <;> rfl
/-- when nothing more is found, what is not known doesn't settle -/
theorem WI_end {nx : Nat → Nat} {nR B : Nat} {g : Nat → Int32} (hW : WI nx nR B g) (hF : ∀ u, u < 2 ^ nR → g (B + u) = -3 → ∃ v, isN nx nR u v ∧ g (B + v) = -3) : ∀ {n u s : Nat}, u < 2 ^ nR → TS nx nR n u s → g (B + u) ≠ -3
  | 0, u, s, hu, h, hg => by
    rcases hW u hu with hw | ⟨t, ht, hw, _⟩ | hw
    · exact hw.2 h.1
    · obtain ⟨v, hv, _⟩ := hF u hu hg
      obtain ⟨m, hm, _⟩ := TS.down h hv
      omega
    · rw [hw.1] at hg; exact absurd hg (by decide)
  | n + 1, u, s, hu, h, hg => by
    rcases h with h | h
    · exact WI_end hW hF hu h hg
    · obtain ⟨v, hv, hv3⟩ := hF u hu hg
      exact WI_end hW hF (isN_lt hu hv) (h.2 v hv) hv3
