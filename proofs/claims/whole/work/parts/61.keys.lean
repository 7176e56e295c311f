/-! drawings and huts as they are, whichever side keeps them -/
abbrev DD : Type := (Nat × Nat × Nat × Nat × Nat) × ((Nat → Nat) × (Nat → Nat) × (Nat → Nat) × (Nat → Nat)) × ((Nat → Bool) × (Nat → Bool) × (Nat → Bool)) × (Nat → (Nat → Bool) → Bool) × (Nat → Nat → Nat → Bool) × ((Nat → Int64) × (Nat → Int64) × (Nat → Int64)) × (Nat → List Int64)
def dI (D : DD) : Nat := D.1.1
def dK (D : DD) : Nat := D.1.2.1
def dR (D : DD) : Nat := D.1.2.2.1
def dL (D : DD) : Nat := D.1.2.2.2.1
def dV (D : DD) : Nat := D.1.2.2.2.2
def dow (D : DD) : Nat → Nat := D.2.1.1
def dsl (D : DD) : Nat → Nat := D.2.1.2.1
def dof (D : DD) : Nat → Nat := D.2.1.2.2.1
def dlp (D : DD) : Nat → Nat := D.2.1.2.2.2
def dnt (D : DD) : Nat → Bool := D.2.2.1.1
def dtr (D : DD) : Nat → Bool := D.2.2.1.2.1
def dgr (D : DD) : Nat → Bool := D.2.2.1.2.2
def dCT (D : DD) : Nat → (Nat → Bool) → Bool := D.2.2.2.1
def dNV (D : DD) : Nat → Nat → Nat → Bool := D.2.2.2.2.1
def dnI (D : DD) : Nat → Int64 := D.2.2.2.2.2.1.1
def dnR (D : DD) : Nat → Int64 := D.2.2.2.2.2.1.2.1
def dnL (D : DD) : Nat → Int64 := D.2.2.2.2.2.1.2.2
def dsg (D : DD) : Nat → List Int64 := D.2.2.2.2.2.2
/-- the code of a circuit's token in x: of a sign, or of the relay or input that bears the name -/
def nmF (D : DD) (s : Int64) : Nat := match (List.range (dR D)).find? (fun r => decide (dnR D r = s)) with
  | some r => r
  | none => match (List.range (dI D)).find? (fun r => decide (dnI D r = s)) with
    | some i => 6 + i
    | none => 99
def cdF (D : DD) (s : Int64) : Nat := if s = -6 then 117 else if s = -7 then 118 else if s = -8 then 114 else if s = -9 then 115 else if s = -10 then 116 else nmF D s
/-- what every drawing keeps -/
def WD (D : DD) : Prop := dI D ≤ 5 ∧ dK D ≤ 40 ∧ dR D ≤ 6 ∧ dL D ≤ 5 ∧ dV D ≤ 6 ∧
  (∀ k, k < dK D → dow D k < 11 ∧ cirB (dR D) (dL D) (dow D k) = true ∧ (dof D k < dI D ∨ (10 ≤ dof D k ∧ dof D k < 10 + dR D))) ∧
  (∀ r, r < dR D → dsl D r < 10) ∧ (∀ k, k < dV D → dlp D k < dL D ∧ dgr D (dlp D k) = true) ∧ depB (dK D) (dow D) (dCT D) ∧
  (∀ c, c < 11 → cirB (dR D) (dL D) c = true → ∀ s ∈ dsg D c, (s = -6 ∨ s = -7 ∨ s = -8 ∨ s = -9 ∨ s = -10) ∨ (0 < s ∧ ((∃ r, r < dR D ∧ dnR D r = s) ∨ ∃ i, i < dI D ∧ dnI D i = s))) ∧
  (∀ i, i < dI D → dnI D i ≠ 0) ∧ (∀ r, r < dR D → dnR D r ≠ 0) ∧ (∀ k, k < dL D → dnL D k ≠ 0)
section WDS
variable {D : DD}
theorem WD.i (h : WD D) : dI D ≤ 5 := h.1
theorem WD.k (h : WD D) : dK D ≤ 40 := h.2.1
theorem WD.r (h : WD D) : dR D ≤ 6 := h.2.2.1
theorem WD.l (h : WD D) : dL D ≤ 5 := h.2.2.2.1
theorem WD.v (h : WD D) : dV D ≤ 6 := h.2.2.2.2.1
theorem WD.c (h : WD D) : ∀ k, k < dK D → dow D k < 11 ∧ cirB (dR D) (dL D) (dow D k) = true ∧ (dof D k < dI D ∨ (10 ≤ dof D k ∧ dof D k < 10 + dR D)) := h.2.2.2.2.2.1
theorem WD.s (h : WD D) : ∀ r, r < dR D → dsl D r < 10 := h.2.2.2.2.2.2.1
theorem WD.n (h : WD D) : ∀ k, k < dV D → dlp D k < dL D ∧ dgr D (dlp D k) = true := h.2.2.2.2.2.2.2.1
theorem WD.d (h : WD D) : depB (dK D) (dow D) (dCT D) := h.2.2.2.2.2.2.2.2.1
theorem WD.g (h : WD D) : ∀ c, c < 11 → cirB (dR D) (dL D) c = true → ∀ s ∈ dsg D c, (s = -6 ∨ s = -7 ∨ s = -8 ∨ s = -9 ∨ s = -10) ∨ (0 < s ∧ ((∃ r, r < dR D ∧ dnR D r = s) ∨ ∃ i, i < dI D ∧ dnI D i = s)) := h.2.2.2.2.2.2.2.2.2.1
theorem WD.m (h : WD D) : (∀ i, i < dI D → dnI D i ≠ 0) ∧ (∀ r, r < dR D → dnR D r ≠ 0) ∧ (∀ k, k < dL D → dnL D k ≠ 0) := h.2.2.2.2.2.2.2.2.2.2
theorem WD.pr (h : WD D) : 2 ^ dR D ≤ 64 := Nat.pow_le_pow_right (n := 2) (by decide) h.r
theorem WD.pi (h : WD D) : 2 ^ dI D ≤ 32 := Nat.pow_le_pow_right (n := 2) (by decide) h.i
end WDS
/-- a flaw that there is, or none -/
def okW (D : DD) (f : Option Nat) : Prop := ∀ n, f = some n → vFb (dK D) (dR D) (dow D) n = true
theorem okW_F {D : DD} {f : Option Nat} (h : okW D f) : okF (dK D) (dR D) f := by
  cases f with
  | none => exact True.intro
  | some n =>
    have h1 := h n rfl
    unfold vFb at h1
    refine ⟨fun hn => ?_, fun hn => ?_⟩
    · rw [if_neg (by omega)] at h1
      simp only [Bool.and_eq_true, Bool.or_eq_true, decide_eq_true_eq] at h1
      refine ⟨h1.1, ?_, fun e => ?_⟩
      · rcases h1.2 with a | ⟨a, _⟩ <;> omega
      · rcases h1.2 with a | ⟨_, a, _⟩
        · omega
        · exact a
    · rw [if_pos hn, decide_eq_true_eq] at h1
      exact h1
theorem okW_cr {D : DD} {f g : Option Nat} (hf : okW D f) (hg : okW D g) {k : Nat} (h : cr2 f g k = true) : k + 1 < dK D ∧ dow D (k + 1) = dow D k := by
  have one : ∀ {f : Option Nat}, okW D f → crF f k = true → k + 1 < dK D ∧ dow D (k + 1) = dow D k := by
    intro f hf hc
    cases f with
    | none => cases hc
    | some n =>
      have hc2 : n < 200 ∧ n % 4 = 2 ∧ n / 4 = k := of_decide_eq_true hc
      have h1 := hf n rfl
      unfold vFb at h1
      rw [if_neg (by omega)] at h1
      simp only [Bool.and_eq_true, Bool.or_eq_true, decide_eq_true_eq] at h1
      rcases h1.2 with a | ⟨_, a, b⟩
      · omega
      · rw [hc2.2.2] at a b
        exact ⟨a, b.symm⟩
  unfold cr2 at h
  rcases Bool.or_eq_true _ _ ▸ h with a | a
  · exact one hf a
  · exact one hg a
theorem okW_hu {D : DD} {f : Option Nat} (hw : WD D) (hf : okW D f) : ∀ c, (huF (dow D) f).testBit c = true → cirB (dR D) (dL D) c = true ∧ c < 11 := by
  intro c hc
  cases f with
  | none =>
    rw [show huF (dow D) none = 0 from rfl, Nat.zero_testBit] at hc
    cases hc
  | some n =>
    have h1 := (okW_F hf)
    unfold huF at hc
    split at hc
    · next n1 h2 =>
      cases h2
      split at hc
      · next h3 =>
        have h4 := (h1.1 h3).1
        have h5 := hw.c _ h4
        rw [Nat.testBit_two_pow, decide_eq_true_eq] at hc
        rw [← hc]
        exact ⟨h5.2.1, h5.1⟩
      · rw [Nat.zero_testBit] at hc; cases hc
    · next h2 => cases h2
theorem okW_hu2 {D : DD} {f : Option Nat} (hw : WD D) (hf : okW D f) : huF (dow D) f < 2048 := by
  cases f with
  | none =>
    rw [show huF (dow D) none = 0 from rfl]
    decide
  | some n =>
    have h1 := (okW_F hf)
    by_cases h3 : n < 200
    · rw [show huF (dow D) (some n) = 2 ^ dow D (n / 4) from if_pos h3, show (2048 : Nat) = 2 ^ 11 from rfl]
      exact Nat.pow_lt_pow_right (by decide) (hw.c _ (h1.1 h3).1).1
    · rw [show huF (dow D) (some n) = 0 from if_neg h3]
      decide
/-- a hut: a drawing, another one of which a set of circuits and the nevers are, two flaws -/
abbrev HKy : Type := DD × DD × Nat × Option Nat × Option Nat
def kD (q : HKy) : DD := q.1
def kE (q : HKy) : DD := q.2.1
def kS (q : HKy) : Nat := q.2.2.1
def kF (q : HKy) : Option Nat := q.2.2.2.1
def kG (q : HKy) : Option Nat := q.2.2.2.2
def kSh (q : HKy) (on up : Nat) : Nat := shM (dR (kD q)) (dL (kD q)) (kS q) (dof (kD q)) (dof (kE q)) (dnt (kD q)) (dtr (kD q)) (dnt (kE q)) (dtr (kE q)) (wl2 (kF q) (kG q)) (br2 (kF q) (kG q)) (cr2 (kF q) (kG q)) (dCT (kD q)) (dCT (kE q)) on up
def kSt (q : HKy) : Nat := skF (kF q) ||| skF (kG q)
def kSu (q : HKy) : Nat := suF (kF q) ||| suF (kG q)
def kNx (q : HKy) (on v : Nat) : Nat := mvF (dR (kD q)) (dsl (kD q)) (kSh q on v) (kSt q) v
noncomputable def kSe (q : HKy) (on up : Nat) : Int32 := stF (kNx q on) (dR (kD q)) up
/-- huts that there are: two drawings with the same inputs, relays, lamps; flaws of the first, or circuits of the second -/
def WK (q : HKy) : Prop := WD (kD q) ∧ WD (kE q) ∧ dI (kE q) = dI (kD q) ∧ dR (kE q) = dR (kD q) ∧ dL (kE q) = dL (kD q) ∧ okW (kD q) (kF q) ∧ okW (kD q) (kG q) ∧ kS q < 2048 ∧ (∀ c, c < 11 → (kS q).testBit c = true → cirB (dR (kE q)) (dL (kE q)) c = true) ∧ (kS q = 0 ∨ (kF q = none ∧ kG q = none)) ∧ (kS q = 0 ∨ ∀ k, k < dL (kD q) → dgr (kE q) k = dgr (kD q) k) ∧ (kS q = 0 → kE q = kD q ∨ ∀ k, k < dL (kD q) → dgr (kE q) k = dgr (kD q) k)
theorem WK.gr {q : HKy} (h : WK q) : ∀ k, k < dL (kD q) → dgr (kE q) k = dgr (kD q) k := by
  obtain ⟨_, _, _, _, _, _, _, _, _, _, h1, h2⟩ := h
  rcases h1 with e | e
  · rcases h2 e with e2 | e2
    · rw [e2]; exact fun _ _ => rfl
    · exact e2
  · exact e
def kOne (D : DD) (f g : Option Nat) : HKy := (D, D, 0, f, g)
def kMix (D E : DD) (s : Nat) : HKy := (D, E, s, none, none)
theorem okW_no {D : DD} : okW D none := fun n e => by cases e
theorem WK_one {D : DD} {f g : Option Nat} (hw : WD D) (hf : okW D f) (hg : okW D g) : WK (kOne D f g) := ⟨hw, hw, rfl, rfl, rfl, hf, hg, (show (0 : Nat) < 2048 by decide), (fun c _ (h : (0 : Nat).testBit c = true) => by rw [Nat.zero_testBit] at h; cases h), Or.inl rfl, Or.inl rfl, fun _ => Or.inl rfl⟩
theorem WK_mix {D E : DD} {s : Nat} (hw : WD D) (he : WD E) (e1 : dI E = dI D) (e2 : dR E = dR D) (e3 : dL E = dL D) (hg : ∀ k, k < dL D → dgr E k = dgr D k) (hs : s < 2048) (hb : ∀ c, c < 11 → s.testBit c = true → cirB (dR D) (dL D) c = true) : WK (kMix D E s) := ⟨hw, he, e1, e2, e3, okW_no, okW_no, hs, fun c h1 h2 => by rw [show kE (kMix D E s) = E from rfl, e2, e3]; exact hb c h1 h2, Or.inr ⟨rfl, rfl⟩, Or.inr hg, fun _ => Or.inr hg⟩
theorem kSh_lt (q : HKy) (on up : Nat) : kSh q on up < 2048 := bsum_lt _ 11
theorem kNx_lt {q : HKy} (h : WD (kD q)) (on v : Nat) : kNx q on v < 2 ^ dR (kD q) := mvF_lt h.s
theorem kSt_lt {q : HKy} (h : WK q) : kSt q < 64 ∧ kSu q < 64 := by
  have h6 := h.1.r
  have a := sk_lt h6 (okW_F h.2.2.2.2.2.1)
  have b := sk_lt h6 (okW_F h.2.2.2.2.2.2.1)
  exact ⟨Nat.or_lt_two_pow (n := 6) a.1 b.1, Nat.or_lt_two_pow (n := 6) a.2 b.2⟩
theorem suF_sk (f : Option Nat) : suF f &&& skF f = suF f := by
  cases f with
  | none => rfl
  | some n =>
    unfold suF skF
    simp only
    split
    · rfl
    · split
      · exact Nat.and_self _
      · exact Nat.zero_and _
theorem kSu_sub (q : HKy) : ∀ r, (kSu q).testBit r = true → (kSt q).testBit r = true := by
  intro r h
  unfold kSu at h
  unfold kSt
  rw [Nat.testBit_or, Bool.or_eq_true] at h ⊢
  have key : ∀ f : Option Nat, (suF f).testBit r = true → (skF f).testBit r = true := by
    intro f hf
    rw [← suF_sk f, Nat.testBit_and, Bool.and_eq_true] at hf
    exact hf.2
  exact h.imp (key _) (key _)
theorem sk_up {D : DD} {f : Option Nat} (h : okW D f) (hr : dR D ≤ 6) : skF f < 2 ^ dR D ∧ suF f < 2 ^ dR D := by
  have hk := okW_F h
  cases f with
  | none => exact ⟨Nat.two_pow_pos _, Nat.two_pow_pos _⟩
  | some n =>
    by_cases hn : n < 200
    · rw [show skF (some n) = 0 from if_pos hn, show suF (some n) = 0 from if_pos hn]
      exact ⟨Nat.two_pow_pos _, Nat.two_pow_pos _⟩
    · have h2 := hk.2 (by omega)
      rw [show skF (some n) = 2 ^ ((n - 200) / 2) from if_neg hn, show suF (some n) = if n % 2 = 0 then 2 ^ ((n - 200) / 2) else 0 from if_neg hn]
      have h3 : 2 ^ ((n - 200) / 2) < 2 ^ dR D := Nat.pow_lt_pow_right (by decide) (by omega)
      refine ⟨h3, ?_⟩
      split
      · exact h3
      · exact Nat.two_pow_pos _
theorem kSt_up {q : HKy} (h : WK q) : kSt q < 2 ^ dR (kD q) ∧ kSu q < 2 ^ dR (kD q) := by
  have a := sk_up h.2.2.2.2.2.1 h.1.r
  have b := sk_up h.2.2.2.2.2.2.1 h.1.r
  exact ⟨Nat.or_lt_two_pow a.1 b.1, Nat.or_lt_two_pow a.2 b.2⟩
/-- states with the stuck relays as they are stuck -/
def kPl (q : HKy) (v : Nat) : Nat := plc (kSt q) (kSu q) v
def kOk (q : HKy) (v : Nat) : Prop := v &&& kSt q = kSu q
theorem plc_tb {st su v r : Nat} : (plc st su v).testBit r = ((v.testBit r && !st.testBit r) || su.testBit r) := by
  unfold plc
  simp only [Nat.testBit_or, Nat.testBit_xor, Nat.testBit_and]
  cases v.testBit r <;> cases st.testBit r <;> cases su.testBit r <;> rfl
theorem kPl_ok (q : HKy) (v : Nat) : kOk q (kPl q v) := by
  refine Nat.eq_of_testBit_eq (fun r => ?_)
  rw [Nat.testBit_and, show (kPl q v).testBit r = _ from plc_tb]
  have := kSu_sub q r
  cases h1 : (kSu q).testBit r <;> cases h2 : (kSt q).testBit r <;> cases v.testBit r <;> simp_all
theorem kPl_id {q : HKy} {v : Nat} (h : kOk q v) : kPl q v = v := by
  refine Nat.eq_of_testBit_eq (fun r => ?_)
  rw [show (kPl q v).testBit r = _ from plc_tb]
  have h2 : (v &&& kSt q).testBit r = (kSu q).testBit r := by rw [show v &&& kSt q = kSu q from h]
  rw [Nat.testBit_and] at h2
  rw [← h2]
  cases v.testBit r <;> cases (kSt q).testBit r <;> rfl
theorem kPl_lt {q : HKy} (h : WK q) {v : Nat} (hv : v < 2 ^ dR (kD q)) : kPl q v < 2 ^ dR (kD q) := by
  unfold kPl plc
  exact Nat.or_lt_two_pow (Nat.xor_lt_two_pow hv (Nat.and_lt_two_pow _ (kSt_up h).1)) (kSt_up h).2
theorem lsF_bit {dr : Nat → Bool} {sl : Nat → Nat} {r : Nat} : ∀ {n : Nat}, (lsF dr sl n).2.testBit r = true → dr r = true
  | 0, h => by
    rw [show (lsF dr sl 0).2 = 0 from rfl, Nat.zero_testBit] at h
    cases h
  | n + 1, h => by
    by_cases hd : dr n = true
    · by_cases e : r = n
      · rw [e]; exact hd
      · refine lsF_bit (n := n) (sl := sl) ?_
        unfold lsF at h
        rw [if_pos hd] at h
        split at h
        · have h2 : (2 ^ n).testBit r = true := h
          rw [Nat.testBit_two_pow, decide_eq_true_eq] at h2
          exact absurd h2.symm e
        · split at h
          · have h2 : ((lsF dr sl n).2 ||| 2 ^ n).testBit r = true := h
            rw [Nat.testBit_or, Nat.testBit_two_pow, decide_eq_false (fun z => e z.symm), Bool.or_false] at h2
            exact h2
          · exact h
    · rw [zF_no (by simpa using hd)] at h
      exact lsF_bit h
theorem due_st {nR sh st up r : Nat} (h : (dueN nR sh st up).testBit r = true) : st.testBit r = false := by
  unfold dueN at h
  simp only [Nat.testBit_xor, Nat.testBit_and] at h
  cases hs : st.testBit r with
  | false => rfl
  | true =>
    rw [hs] at h
    revert h
    cases (up.testBit r ^^ sh.testBit r) <;> cases (2 ^ nR - 1).testBit r <;> decide
theorem mvF_st {nR sh st up r : Nat} {sl : Nat → Nat} (h : (mvF nR sl sh st up).testBit r = true) : st.testBit r = false := by
  have hb : ∀ j, (lsF (drB nR sh st up) sl j).2.testBit r = true → st.testBit r = false := fun j hj => by
    have := lsF_bit hj
    unfold drB at this
    rw [Nat.testBit_and, Bool.and_eq_true] at this
    exact due_st this.1
  unfold mvF at h
  split at h
  · rw [Nat.testBit_or, Bool.or_eq_true] at h
    rcases h with h | h
    · unfold qkN at h
      rw [Nat.testBit_xor, Nat.testBit_and] at h
      refine due_st (nR := nR) (sh := sh) (st := st) (up := up) ?_
      cases e : (dueN nR sh st up).testBit r with
      | true => rfl
      | false => rw [e] at h; revert h; cases up.testBit r <;> decide
    · unfold zF at h
      split at h
      · exact hb _ h
      · rw [Nat.zero_testBit] at h; cases h
  · exact hb _ h
theorem kOk_next {q : HKy} {on u v : Nat} (hu : kOk q u) (h : isN (kNx q on) (dR (kD q)) u v) : kOk q v := by
  obtain ⟨r, _, h2, rfl⟩ := h
  have h3 : (kSt q).testBit r = false := mvF_st h2
  refine Nat.eq_of_testBit_eq (fun i => ?_)
  have h4 : (u &&& kSt q).testBit i = (kSu q).testBit i := by rw [show u &&& kSt q = kSu q from hu]
  rw [← h4, Nat.testBit_and, Nat.testBit_and, Nat.testBit_xor, Nat.testBit_two_pow]
  by_cases e : r = i
  · rw [← e, h3, Bool.and_false, Bool.and_false]
  · rw [decide_eq_false e, Bool.xor_false]
theorem kOk_TS {q : HKy} (hw : WD (kD q)) {on : Nat} : ∀ {n u s : Nat}, kOk q u → TS (kNx q on) (dR (kD q)) n u s → kOk q s
  | 0, u, s, hu, h => h.2 ▸ hu
  | n + 1, u, s, hu, h => by
    rcases h with h | h
    · exact kOk_TS hw hu h
    · obtain ⟨v, hv⟩ := isN_ex h.1 (kNx_lt hw on u)
      exact kOk_TS hw (kOk_next hu hv) (h.2 v hv)
/-- where a hut settles: a race, or a state with the stuck relays as they are -/
theorem kSe_c {q : HKy} (h : WK q) {on up : Nat} (hup : up < 2 ^ dR (kD q)) : kSe q on up = -2 ∨ ∃ s, s < 2 ^ dR (kD q) ∧ kSe q on up = nI s ∧ (kOk q up → kOk q s) := by
  by_cases hex : ∃ s, ST (kNx q on) (dR (kD q)) up s
  · obtain ⟨s, n, hs⟩ := hex
    exact Or.inr ⟨s, ST_lt (kNx_lt h.1 on) hup hs, stF_some (kNx_lt h.1 on) ⟨n, hs⟩, fun hk => kOk_TS h.1 hk hs⟩
  · exact Or.inl (stF_none (fun s hs => hex ⟨s, hs⟩))
/-- what may be reached -/
def kVal (q : HKy) (x : Nat) : Prop := x < 2048 ∧ x / 64 < 2 ^ dI (kD q) ∧ x % 64 < 2 ^ dR (kD q) ∧ kOk q (x % 64)
noncomputable def kNb (q : HKy) : Nat → Nat → Option Nat := nbF (dR (kD q)) (kNx q)
/-- all that is reached -/
noncomputable def kFn (q : HKy) : BS := @ite _ (kSe q 0 (kSu q) = -2) (Classical.propDecidable _) SRF (bK (kNb q) (dI (kD q)) 2048 (S0F (kSe q 0 (kSu q)).toNatClampNeg))
noncomputable def kW (q : HKy) (x : Nat) : Bool := wrB (kSh q) (dgr (kD q)) (dL (kD q)) (dV (kE q)) (dlp (kE q)) (dNV (kE q)) x
noncomputable def kWa (q : HKy) : Int32 := wA (kW q) (kFn q).2.1 (kFn q).1
theorem kFn_race {q : HKy} (h : kSe q 0 (kSu q) = -2) : kFn q = SRF := by
  unfold kFn
  exact if_pos h
theorem kFn_go {q : HKy} {s : Nat} (h : kSe q 0 (kSu q) = nI s) (hs : s < 64) : kFn q = bK (kNb q) (dI (kD q)) 2048 (S0F s) := by
  unfold kFn
  rw [if_neg (by rw [h]; exact (nI_n2 hs).1), h, nI_clamp (by omega)]
theorem xor_pow_lt {a n i : Nat} (ha : a < 2 ^ n) (hi : i < n) : a ^^^ 2 ^ i < 2 ^ n := Nat.xor_lt_two_pow ha (Nat.pow_lt_pow_right (by decide) hi)
theorem kNb_val {q : HKy} (h : WK q) {x i y : Nat} (hx : kVal q x) (hi : i < dI (kD q)) (he : kNb q x i = some y) : kVal q y := by
  unfold kNb nbF at he
  have hr := h.1.pr
  have h1 := xor_pow_lt hx.2.1 hi
  have hpi := h.1.pi
  split at he
  · cases he
  · rcases kSe_c h (on := x / 64 ^^^ 2 ^ i) hx.2.2.1 with e | ⟨s, a, e, c⟩
    · exact absurd e (by assumption)
    · have e2 : stF (kNx q (x / 64 ^^^ 2 ^ i)) (dR (kD q)) (x % 64) = nI s := e
      rw [e2, nI_clamp (by omega)] at he
      cases he
      refine ⟨by omega, by omega, by omega, ?_⟩
      rw [show (64 * (x / 64 ^^^ 2 ^ i) + s) % 64 = s by omega]
      exact c hx.2.2.2
