/-! the least number of stages; Integer.bitCount of small sets -/
theorem pqN_hi {f : Nat → Bool} {n : Nat} (h : ∀ i, n ≤ i → f i = false) : ∀ m, n ≤ m → pqN f m = pqN f n := fun m hm => by
  obtain ⟨k, rfl⟩ := Nat.exists_eq_add_of_le hm
  induction k with
  | zero => rfl
  | succ k ih =>
    show pqN f (n + k) + (f (n + k)).toNat = _
    rw [ih (by omega), h (n + k) (by omega)]
    rfl
theorem bcI : ∀ v, v < 2048 → (fun i1 : Int32 => (fun i2 : Int32 => (fun i3 : Int32 => (fun i4 : Int32 => (i4 + (i4.toUInt32 >>> ((16 : Int32).toUInt32 &&& Int32.toUInt32 31)).toInt32) &&& 63) (i3 + (i3.toUInt32 >>> ((8 : Int32).toUInt32 &&& Int32.toUInt32 31)).toInt32)) ((i2 + (i2.toUInt32 >>> ((4 : Int32).toUInt32 &&& Int32.toUInt32 31)).toInt32) &&& 252645135)) ((i1 &&& 858993459) + ((i1.toUInt32 >>> ((2 : Int32).toUInt32 &&& Int32.toUInt32 31)).toInt32 &&& 858993459))) (nI v - ((((nI v).toUInt32 >>> ((1 : Int32).toUInt32 &&& Int32.toUInt32 31)).toInt32) &&& 1431655765)) = nI (pqN v.testBit 11) := by decide +kernel
set_option maxHeartbeats 8000000 in
theorem c_bitCountI {l : Launch} {G : GG} {h : AH} {nx : Nat} {Post : Option Value → AH → Nat → Prop} {v : Nat} (hX : XC G ∧ TX l G) (hv : v < 2048) (hP : Post (some (.int (nI (pqN v.testBit 11)))) h nx) : Runs l G i_J6_bitCount_0f7a4 0 0 [.int (nI v)] h nx Post := by
  rw [← bcI v hv] at hP
  refine en_J6_bitCount_0f7a4 hX [] 60 rfl ?_
  exact And.intro rfl hP
/-- one stage leads from set v to set x -/
def sgO (u k v x : Nat) : Prop := v < x ∧ (∀ i, v.testBit i = true → x.testBit i = true) ∧ (∀ i, x.testBit i = true → u.testBit i = true) ∧ pqN (x ^^^ v).testBit 11 ≤ k
/-- j stages lead from v to u, by safe sets alone -/
def RT (u k : Nat) (sf : Nat → Bool) : Nat → Nat → Prop
  | 0, v => v = u ∧ sf v = true
  | j + 1, v => sf v = true ∧ ∃ x, sgO u k v x ∧ RT u k sf j x
def IsM (P : Nat → Prop) (r : Option Nat) : Prop := match r with
  | none => ∀ j, ¬ P j
  | some j => P j ∧ ∀ i, P i → j ≤ i
theorem IsM_eq {P : Nat → Prop} {r t : Option Nat} (h1 : IsM P r) (h2 : IsM P t) : r = t := by
  cases r with
  | none =>
    cases t with
    | none => rfl
    | some j => exact absurd h2.1 (h1 j)
  | some i =>
    cases t with
    | none => exact absurd h1.1 (h2 i)
    | some j => rw [Nat.le_antisymm (h1.2 j h2.1) (h2.2 i h1.1)]
theorem IsM_congr {P Q : Nat → Prop} {r : Option Nat} (h : ∀ j, P j ↔ Q j) (hr : IsM P r) : IsM Q r := by
  cases r with
  | none => exact fun j z => hr j ((h j).mpr z)
  | some j => exact ⟨(h j).mp hr.1, fun i z => hr.2 i ((h i).mpr z)⟩
theorem IsM_add {P : Nat → Prop} {r : Option Nat} {n : Nat} (h : IsM P r) : IsM (fun j => P j ∨ j = n) (match r with | none => some n | some j => if n < j then some n else some j) := by
  cases r with
  | none => exact ⟨Or.inr rfl, fun i hi => by rcases hi with z | z; exact absurd z (h i); omega⟩
  | some j =>
    show IsM _ (if n < j then some n else some j)
    split
    · exact ⟨Or.inr rfl, fun i hi => by
        rcases hi with z | z
        · have := h.2 i z; omega
        · omega⟩
    · exact ⟨Or.inl h.1, fun i hi => by
        rcases hi with z | z
        · exact h.2 i z
        · omega⟩
def LVs (u k : Nat) (sf : Nat → Bool) (v : Nat) (r : Option Nat) : Prop := IsM (fun j => RT u k sf j v) r
theorem LV_unsafe {u k v : Nat} {sf : Nat → Bool} (h : sf v = false) : LVs u k sf v none := fun j z => by
  cases j with
  | zero => rw [z.2] at h; cases h
  | succ j => rw [z.1] at h; cases h
theorem LV_end {u k : Nat} {sf : Nat → Bool} (h : sf u = true) : LVs u k sf u (some 0) := ⟨⟨rfl, h⟩, fun i _ => Nat.zero_le i⟩
/-- the least number out of those behind one stage -/
theorem LV_of {u k v : Nat} {sf : Nat → Bool} {g : Nat → Option Nat} {r : Option Nat} (hs : sf v = true) (hne : v ≠ u) (hg : ∀ x, sgO u k v x → LVs u k sf x (g x)) (hr : IsM (fun j => ∃ x m, sgO u k v x ∧ g x = some m ∧ j = m + 1) r) : LVs u k sf v r := by
  have up : ∀ j, (∃ x m, sgO u k v x ∧ g x = some m ∧ j = m + 1) → RT u k sf j v := fun j ⟨x, m, h1, h2, h3⟩ => by
    have := hg x h1
    rw [h2] at this
    rw [h3]
    exact ⟨hs, x, h1, this.1⟩
  have dn : ∀ j, RT u k sf j v → ∃ i, i ≤ j ∧ ∃ x m, sgO u k v x ∧ g x = some m ∧ i = m + 1 := fun j z => by
    cases j with
    | zero => exact absurd z.1 hne
    | succ j =>
      obtain ⟨_, x, h1, h2⟩ := z
      have h3 := hg x h1
      cases h4 : g x with
      | none => rw [h4] at h3; exact absurd h2 (h3 j)
      | some m =>
        rw [h4] at h3
        exact ⟨m + 1, by have := h3.2 j h2; omega, x, m, h1, h4, rfl⟩
  cases r with
  | none =>
    intro j z
    obtain ⟨i, _, w⟩ := dn j z
    exact hr i w
  | some n =>
    refine ⟨up n hr.1, fun i z => ?_⟩
    obtain ⟨i2, h1, w⟩ := dn i z
    have := hr.2 i2 w
    omega
/-- the next set on a shortest way -/
theorem LV_step {u k v j : Nat} {sf : Nat → Bool} (h : LVs u k sf v (some (j + 1))) : (∃ x, sgO u k v x ∧ LVs u k sf x (some j)) := by
  obtain ⟨⟨h1, x, h2, h3⟩, h4⟩ := h
  refine ⟨x, h2, h3, fun i hi => ?_⟩
  have := h4 (i + 1) ⟨h1, x, h2, hi⟩
  omega
theorem pq_le {f g : Nat → Bool} (h : ∀ i, f i = true → g i = true) : ∀ n, pqN f n ≤ pqN g n
  | 0 => Nat.le_refl _
  | n + 1 => by
    have := pq_le h n
    show pqN f n + (f n).toNat ≤ pqN g n + (g n).toNat
    cases c : f n with
    | false => show pqN f n + 0 ≤ _; omega
    | true => rw [h n c]; omega
theorem pq_lt {f g : Nat → Bool} (h : ∀ i, f i = true → g i = true) {i : Nat} (h1 : f i = false) (h2 : g i = true) : ∀ n, i < n → pqN f n < pqN g n
  | 0, hi => absurd hi (Nat.not_lt_zero i)
  | n + 1, hi => by
    show pqN f n + (f n).toNat < pqN g n + (g n).toNat
    by_cases e : i = n
    · have := pq_le h n
      subst e
      rw [h1, h2]
      show pqN f i + 0 < pqN g i + 1
      omega
    · have := pq_lt h h1 h2 n (by omega)
      cases c : f n with
      | false => show pqN f n + 0 < _; omega
      | true => rw [h n c]; omega
theorem RT_pop {u k : Nat} {sf : Nat → Bool} (hu : u < 2048) : ∀ (j v : Nat), RT u k sf j v → j + pqN v.testBit 11 ≤ pqN u.testBit 11
  | 0, v, h => by rw [h.1]; omega
  | j + 1, v, h => by
    obtain ⟨_, x, h1, h2⟩ := h
    have ih := RT_pop hu j x h2
    obtain ⟨i, hi1, hi2⟩ : ∃ i, v.testBit i = false ∧ x.testBit i = true := by
      apply Classical.byContradiction
      intro hno
      have : v = x := Nat.eq_of_testBit_eq (fun i => by
        cases a : v.testBit i with
        | true => exact (h1.2.1 i a).symm
        | false =>
          cases b : x.testBit i with
          | false => rfl
          | true => exact absurd ⟨i, a, b⟩ hno)
      have := h1.1
      omega
    have hi11 : i < 11 := by
      rcases Nat.lt_or_ge i 11 with z | z
      · exact z
      · have := h1.2.2.1 i hi2
        rw [tb_big (k := 11) hu z] at this
        cases this
    have := pq_lt h1.2.1 hi1 hi2 11 hi11
    omega
