/-! plans: sets of circuits by their places, and the least number of stages -/
theorem mod_ps (x i : Nat) : x % 2 ^ (i + 1) = x % 2 ^ i + 2 ^ i * (x.testBit i).toNat := by rw [Nat.mod_pow_succ, Nat.toNat_testBit]
/-- how many circuits of u lie below c -/
def rkU (u : Nat) (c : Nat) : Nat := pqN u.testBit c
theorem rkU_s (u c : Nat) : rkU u (c + 1) = rkU u c + (u.testBit c).toNat := rfl
theorem rkU_le (u : Nat) : ∀ c, rkU u c ≤ c
  | 0 => Nat.le_refl _
  | c + 1 => by
    have := rkU_le u c
    rw [rkU_s]
    cases u.testBit c
    · show rkU u c + 0 ≤ c + 1; omega
    · show rkU u c + 1 ≤ c + 1; omega
theorem rkU_mono {u a b : Nat} (h : a ≤ b) : rkU u a ≤ rkU u b := by
  obtain ⟨k, rfl⟩ := Nat.exists_eq_add_of_le h
  induction k with
  | zero => exact Nat.le_refl _
  | succ k ih =>
    have := ih (by omega)
    rw [show a + (k + 1) = (a + k) + 1 from rfl, rkU_s]
    omega
/-- the set of u's circuits that a number stands for -/
def dpc (u s c : Nat) : Nat := bsum (fun c => u.testBit c && s.testBit (rkU u c)) c
def dep (u s : Nat) : Nat := dpc u s 11
theorem dep_tb {u s : Nat} (c : Nat) : (dep u s).testBit c = (decide (c < 11) && (u.testBit c && s.testBit (rkU u c))) := bsum_tb _ _ _
theorem dep_lt (u s : Nat) : dep u s < 2048 := bsum_lt _ 11
theorem dep_sub {u s i : Nat} (h : (dep u s).testBit i = true) : u.testBit i = true := by
  rw [dep_tb, Bool.and_eq_true, Bool.and_eq_true] at h
  exact h.2.1
theorem dep_0 (u : Nat) : dep u 0 = 0 := Nat.eq_of_testBit_eq (fun i => by rw [dep_tb, Nat.zero_testBit, Nat.zero_testBit, Bool.and_false, Bool.and_false])
theorem dep_xor (u s t : Nat) : dep u (s ^^^ t) = dep u s ^^^ dep u t := Nat.eq_of_testBit_eq (fun i => by
  rw [Nat.testBit_xor, dep_tb, dep_tb, dep_tb, Nat.testBit_xor]
  cases decide (i < 11) <;> cases u.testBit i <;> cases s.testBit (rkU u i) <;> cases t.testBit (rkU u i) <;> rfl)
/-- as many bits on either side -/
theorem dep_pop (u s : Nat) : ∀ c, c ≤ 11 → pqN (dep u s).testBit c = pqN s.testBit (rkU u c)
  | 0, _ => rfl
  | c + 1, h => by
    show pqN (dep u s).testBit c + ((dep u s).testBit c).toNat = _
    rw [dep_pop u s c (by omega), rkU_s, dep_tb, decide_eq_true (show c < 11 by omega), Bool.true_and]
    cases u.testBit c with
    | false => rfl
    | true => rfl
theorem dpc_s (u s c : Nat) : dpc u s (c + 1) = dpc u s c + 2 ^ c * (u.testBit c && s.testBit (rkU u c)).toNat := by
  show bsum _ c ||| (if (u.testBit c && s.testBit (rkU u c)) = true then 2 ^ c else 0) = _
  have hb := bsum_lt (fun c => u.testBit c && s.testBit (rkU u c)) c
  cases hh : (u.testBit c && s.testBit (rkU u c)) with
  | false => rw [if_neg (by decide), Nat.or_zero]; rfl
  | true =>
    rw [if_pos rfl, Nat.or_comm]
    have := or_add (a := 1) hb
    rw [Nat.mul_one] at this
    rw [this]
    show 2 ^ c + dpc u s c = dpc u s c + 2 ^ c * 1
    omega
theorem dep_mono {u s t : Nat} : ∀ c, s % 2 ^ rkU u c < t % 2 ^ rkU u c → dpc u s c < dpc u t c
  | 0, h => by
    rw [show rkU u 0 = 0 from rfl] at h
    omega
  | c + 1, h => by
    have ih := dep_mono (u := u) (s := s) (t := t) c
    rw [dpc_s, dpc_s]
    rw [rkU_s] at h
    have b1 : dpc u s c < 2 ^ c := bsum_lt _ c
    have b2 : dpc u t c < 2 ^ c := bsum_lt _ c
    cases hu : u.testBit c with
    | false =>
      rw [hu] at h
      rw [Bool.false_and, Bool.false_and]
      have := ih h
      omega
    | true =>
      rw [hu, show (true : Bool).toNat = 1 from rfl, mod_ps, mod_ps] at h
      rw [Bool.true_and, Bool.true_and]
      have m1 := Nat.mod_lt s (Nat.two_pow_pos (rkU u c))
      have m2 := Nat.mod_lt t (Nat.two_pow_pos (rkU u c))
      cases h1 : s.testBit (rkU u c) <;> cases h2 : t.testBit (rkU u c) <;> rw [h1, h2] at h <;> simp only [Bool.toNat_false, Bool.toNat_true, Nat.mul_zero, Nat.mul_one, Nat.add_zero] at h ⊢
      · exact ih h
      · omega
      · omega
      · have := ih (by omega)
        omega
theorem dep_lt_iff {u s t : Nat} (hs : s < 2 ^ rkU u 11) (ht : t < 2 ^ rkU u 11) : dep u s < dep u t ↔ s < t := by
  have one : ∀ {a b : Nat}, a < 2 ^ rkU u 11 → b < 2 ^ rkU u 11 → a < b → dep u a < dep u b := fun {a b} ha hb h => dep_mono 11 (by rw [Nat.mod_eq_of_lt ha, Nat.mod_eq_of_lt hb]; exact h)
  constructor
  · intro h
    rcases Nat.lt_trichotomy s t with z | z | z
    · exact z
    · rw [z] at h; omega
    · have := one ht hs z; omega
  · exact one hs ht
theorem dep_inj {u s t : Nat} (hs : s < 2 ^ rkU u 11) (ht : t < 2 ^ rkU u 11) (h : dep u s = dep u t) : s = t := by
  have a := dep_lt_iff hs ht
  have b := dep_lt_iff ht hs
  omega
theorem dpc_mod (u s : Nat) : ∀ c, dpc u (s % 2 ^ rkU u c) c = dpc u s c := fun c => bsum_congr (fun i hi => by
  cases hu : u.testBit i with
  | false => rfl
  | true =>
    have : rkU u i < rkU u c := by
      have h1 := rkU_mono (u := u) (show i + 1 ≤ c by omega)
      rw [rkU_s, hu] at h1
      exact h1
    rw [Nat.testBit_mod_two_pow, decide_eq_true this]
    rfl)
theorem dep_onto {u v : Nat} (hv : ∀ i, v.testBit i = true → u.testBit i = true) : ∀ c, ∃ s, s < 2 ^ rkU u c ∧ dpc u s c = v % 2 ^ c
  | 0 => ⟨0, Nat.two_pow_pos _, by rw [Nat.pow_zero, Nat.mod_one]; rfl⟩
  | c + 1 => by
    obtain ⟨s, hs, e⟩ := dep_onto hv c
    rw [mod_ps, rkU_s]
    cases hu : u.testBit c with
    | false =>
      have hvc : v.testBit c = false := by
        cases z : v.testBit c with
        | false => rfl
        | true => rw [hv c z] at hu; cases hu
      refine ⟨s, hs, ?_⟩
      rw [dpc_s, hu, hvc, e]
      rfl
    | true =>
      refine ⟨s + 2 ^ rkU u c * (v.testBit c).toNat, ?_, ?_⟩
      · rw [show (true : Bool).toNat = 1 from rfl, Nat.pow_succ]
        cases v.testBit c
        · show s + 2 ^ rkU u c * 0 < _; omega
        · show s + 2 ^ rkU u c * 1 < _; omega
      · have hmod : (s + 2 ^ rkU u c * (v.testBit c).toNat) % 2 ^ rkU u c = s := by rw [Nat.add_mul_mod_self_left, Nat.mod_eq_of_lt hs]
        rw [dpc_s, hu, Bool.true_and]
        have e1 : dpc u (s + 2 ^ rkU u c * (v.testBit c).toNat) c = v % 2 ^ c := by
          rw [← dpc_mod, hmod]
          exact e
        rw [e1]
        rw [Nat.toNat_testBit, Nat.add_mul_div_left _ _ (Nat.two_pow_pos _), Nat.div_eq_of_lt hs, Nat.zero_add]
        cases v.testBit c <;> rfl
theorem rk_onto {u : Nat} : ∀ (c i : Nat), i < rkU u c → ∃ d, d < c ∧ u.testBit d = true ∧ rkU u d = i
  | 0, i, h => absurd h (Nat.not_lt_zero i)
  | c + 1, i, h => by
    rw [rkU_s] at h
    by_cases c1 : i < rkU u c
    · obtain ⟨d, a, b, e⟩ := rk_onto c i c1
      exact ⟨d, by omega, b, e⟩
    · cases hu : u.testBit c with
      | false => rw [hu] at h; exact absurd h c1
      | true =>
        rw [hu] at h
        have : i < rkU u c + 1 := h
        exact ⟨c, Nat.lt_succ_self c, hu, by omega⟩
theorem dep_ss {u s t : Nat} (hs : s < 2 ^ rkU u 11) : (∀ i, s.testBit i = true → t.testBit i = true) ↔ ∀ i, (dep u s).testBit i = true → (dep u t).testBit i = true := by
  constructor
  · intro h i hi
    rw [dep_tb, Bool.and_eq_true, Bool.and_eq_true] at hi ⊢
    exact ⟨hi.1, hi.2.1, h _ hi.2.2⟩
  · intro h i hi
    have hir : i < rkU u 11 := by
      rcases Nat.lt_or_ge i (rkU u 11) with z | z
      · exact z
      · rw [tb_big hs z] at hi; cases hi
    obtain ⟨d, a, b, e⟩ := rk_onto 11 i hir
    have := h d (by rw [dep_tb, decide_eq_true a, b, e, hi]; rfl)
    rw [dep_tb, b, e, Bool.and_eq_true] at this
    exact this.2
