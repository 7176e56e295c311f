/-! where a hut settles: all ways from a state end, and at one state -/
/-- a state's next ones: those of the set n that a bit of it makes -/
def isN (nx : Nat → Nat) (nR u v : Nat) : Prop := ∃ r, r < nR ∧ (nx u).testBit r = true ∧ v = u ^^^ 2 ^ r
/-- within so many steps every way from u ends at s -/
def TS (nx : Nat → Nat) (nR : Nat) : Nat → Nat → Nat → Prop
  | 0, u, s => nx u = 0 ∧ u = s
  | n + 1, u, s => TS nx nR n u s ∨ (nx u ≠ 0 ∧ ∀ v, isN nx nR u v → TS nx nR n v s)
/-- it settles at s -/
def ST (nx : Nat → Nat) (nR u s : Nat) : Prop := ∃ n, TS nx nR n u s
theorem TS.up {nx : Nat → Nat} {nR n u s : Nat} (h : TS nx nR n u s) : ∀ {m : Nat}, n ≤ m → TS nx nR m u s
  | 0, hm => by rw [show n = 0 by omega] at h; exact h
  | m + 1, hm => by
    by_cases e : n = m + 1
    · exact e ▸ h
    · exact Or.inl (TS.up h (by omega))
/-- a state with next ones: each of them settles there too, within fewer steps -/
theorem TS.down {nx : Nat → Nat} {nR : Nat} : ∀ {n u s v : Nat}, TS nx nR n u s → isN nx nR u v → ∃ m, m < n ∧ TS nx nR m v s
  | 0, u, s, v, h, hv => by
    obtain ⟨r, hr, hb, rfl⟩ := hv
    rw [h.1, Nat.zero_testBit] at hb
    cases hb
  | n + 1, u, s, v, h, hv => by
    rcases h with h | h
    · obtain ⟨m, hm, h2⟩ := TS.down h hv
      exact ⟨m, by omega, h2⟩
    · exact ⟨n, by omega, h.2 v hv⟩
theorem isN_ex {nx : Nat → Nat} {nR u : Nat} (h : nx u ≠ 0) (hlt : nx u < 2 ^ nR) : ∃ v, isN nx nR u v := by
  obtain ⟨r, hr⟩ := Nat.exists_testBit_of_ne_zero h
  refine ⟨u ^^^ 2 ^ r, r, ?_, hr, rfl⟩
  rcases Nat.lt_or_ge r nR with h2 | h2
  · exact h2
  · rw [tb_lt hlt h2] at hr; cases hr
/-- there is one place at most -/
theorem TS.one {nx : Nat → Nat} {nR : Nat} (hnx : ∀ u, nx u < 2 ^ nR) : ∀ {n u s t : Nat}, TS nx nR n u s → ST nx nR u t → s = t
  | n, u, s, t, h, ht => by
    by_cases h0 : nx u = 0
    · have f : ∀ {n s}, TS nx nR n u s → u = s := by
        intro n
        induction n with
        | zero => intro s h; exact h.2
        | succ n ih =>
          intro s h
          rcases h with h | h
          · exact ih h
          · exact absurd h0 h.1
      obtain ⟨m, hm⟩ := ht
      exact (f h).symm.trans (f hm)
    · obtain ⟨v, hv⟩ := isN_ex h0 (hnx u)
      obtain ⟨k, hk, h2⟩ := TS.down h hv
      obtain ⟨m, hm⟩ := ht
      obtain ⟨k2, hk2, h3⟩ := TS.down hm hv
      exact TS.one hnx h2 ⟨k2, h3⟩
  termination_by n => n
theorem ST.one {nx : Nat → Nat} {nR : Nat} (hnx : ∀ u, nx u < 2 ^ nR) {u s t : Nat} (h : ST nx nR u s) (ht : ST nx nR u t) : s = t := by
  obtain ⟨n, hn⟩ := h
  exact TS.one hnx hn ht
theorem ST.next {nx : Nat → Nat} {nR u s v : Nat} (h : ST nx nR u s) (hv : isN nx nR u v) : ST nx nR v s := by
  obtain ⟨n, hn⟩ := h
  obtain ⟨m, _, h2⟩ := TS.down hn hv
  exact ⟨m, h2⟩
theorem ST.self {nx : Nat → Nat} {nR u : Nat} (h : nx u = 0) : ST nx nR u u := ⟨0, h, rfl⟩
/-- all next ones settle at s: so does it -/
theorem ST.all {nx : Nat → Nat} {nR u s : Nat} (h0 : nx u ≠ 0) (h : ∀ v, isN nx nR u v → ST nx nR v s) : ST nx nR u s := by
  have hb : ∀ k, ∃ n, ∀ r, r < k → r < nR → (nx u).testBit r = true → TS nx nR n (u ^^^ 2 ^ r) s := by
    intro k
    induction k with
    | zero => exact ⟨0, fun r hr => absurd hr (Nat.not_lt_zero r)⟩
    | succ k ih =>
      obtain ⟨n, hn⟩ := ih
      by_cases hk : k < nR ∧ (nx u).testBit k = true
      · obtain ⟨m, hm⟩ := h (u ^^^ 2 ^ k) ⟨k, hk.1, hk.2, rfl⟩
        refine ⟨max n m, fun r hr hr2 hr3 => ?_⟩
        by_cases e : r = k
        · subst e; exact TS.up hm (Nat.le_max_right n m)
        · exact TS.up (hn r (by omega) hr2 hr3) (Nat.le_max_left n m)
      · refine ⟨n, fun r hr hr2 hr3 => ?_⟩
        by_cases e : r = k
        · subst e; exact absurd ⟨hr2, hr3⟩ hk
        · exact hn r (by omega) hr2 hr3
  obtain ⟨n, hn⟩ := hb nR
  exact ⟨n + 1, Or.inr ⟨h0, fun v ⟨r, hr, hbt, hv⟩ => hv ▸ hn r hr hr hbt⟩⟩
/-- a way that comes back to itself: no state on it settles -/
theorem ST.cycle {nx : Nat → Nat} {nR : Nat} {w : Nat → Nat} {k : Nat} (hs : ∀ i, i < k → isN nx nR (w i) (w (i + 1))) (hk : 0 < k) (hc : w k = w 0) : ∀ s, ¬ ST nx nR (w 0) s := by
  have desc : ∀ (n s : Nat), TS nx nR n (w 0) s → ∃ m, m < n ∧ TS nx nR m (w 0) s := by
    intro n s h
    have step : ∀ i, i ≤ k → ∃ m, m + i ≤ n ∧ TS nx nR m (w i) s := by
      intro i
      induction i with
      | zero => intro _; exact ⟨n, by omega, h⟩
      | succ i ih =>
        intro hi
        obtain ⟨m, hm, h2⟩ := ih (by omega)
        obtain ⟨m2, hm2, h3⟩ := TS.down h2 (hs i (by omega))
        exact ⟨m2, by omega, h3⟩
    obtain ⟨m, hm, h2⟩ := step k (Nat.le_refl k)
    rw [hc] at h2
    exact ⟨m, by omega, h2⟩
  have no : ∀ n s, ¬ TS nx nR n (w 0) s := by
    intro n
    induction n using Nat.strongRecOn with
    | _ n ih =>
      intro s h
      obtain ⟨m, hm, h2⟩ := desc n s h
      exact ih m hm s h2
  exact fun s ⟨n, h⟩ => no n s h
/-- the answer: where it settles, or -2 -/
noncomputable def stF (nx : Nat → Nat) (nR u : Nat) : Int32 := @dite Int32 (∃ s, ST nx nR u s) (Classical.propDecidable _) (fun h => nI (Classical.choose h)) (fun _ => -2)
theorem stF_some {nx : Nat → Nat} {nR u s : Nat} (hnx : ∀ u, nx u < 2 ^ nR) (h : ST nx nR u s) : stF nx nR u = nI s := by
  unfold stF
  have hex : ∃ s, ST nx nR u s := ⟨s, h⟩
  rw [dif_pos hex, ST.one hnx (Classical.choose_spec hex) h]
theorem stF_none {nx : Nat → Nat} {nR u : Nat} (h : ∀ s, ¬ ST nx nR u s) : stF nx nR u = -2 := by
  unfold stF
  rw [dif_neg (fun z => z.elim h)]
