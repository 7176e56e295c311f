/-! least tests, whichever side finds them -/
theorem pig : ∀ (N n : Nat) (r : Nat → Nat), (∀ j, j < n → r j < N) → (∀ i j, i < j → j < n → r i ≠ r j) → n ≤ N := by
  intro N
  induction N with
  | zero =>
    intro n r h1 _
    cases n with
    | zero => exact Nat.le_refl 0
    | succ n => exact absurd (h1 0 (by omega)) (by omega)
  | succ N ih =>
    intro n r h1 h2
    cases n with
    | zero => omega
    | succ n =>
      refine Nat.succ_le_succ (ih n (fun j => if r j = N then r n else r j) (fun j hj => ?_) (fun i j hij hj => ?_))
      · have a1 := h1 j (by omega)
        have a2 := h1 n (by omega)
        have a3 := h2 j n hj (by omega)
        split <;> omega
      · have a1 := h2 i j hij (by omega)
        have a2 := h2 i n (by omega) (by omega)
        have a3 := h2 j n hj (by omega)
        split <;> split <;> omega
def tq0 (D : DD) : HKy := kOne D none none
def tq1 (D : DD) (f : Nat) : HKy := kOne D (some f) none
/-- what two huts show: alike 0, unlike 1, a race of both 2 -/
noncomputable def tLk (D : DD) (f on : Nat) (a b : Int32) : Nat := if a = -2 then (if b = -2 then 2 else 1) else if b = -2 then 1 else if kSh (tq0 D) on a.toNatClampNeg >>> 6 = kSh (tq1 D f) on b.toNatClampNeg >>> 6 then 0 else 1
noncomputable def tA (D : DD) (x i : Nat) : Int32 := kSe (tq0 D) (x / 4096 ^^^ 2 ^ i) (x / 64 % 64)
noncomputable def tB (D : DD) (f x i : Nat) : Int32 := kSe (tq1 D f) (x / 4096 ^^^ 2 ^ i) (x % 64)
noncomputable def tL (D : DD) (f x i : Nat) : Nat := tLk D f (x / 4096 ^^^ 2 ^ i) (tA D x i) (tB D f x i)
noncomputable def tY (D : DD) (f x i : Nat) : Nat := 4096 * (x / 4096 ^^^ 2 ^ i) + 64 * (tA D x i).toNatClampNeg + (tB D f x i).toNatClampNeg
noncomputable def tNb (D : DD) (f x i : Nat) : Option Nat := if tL D f x i = 0 then some (tY D f x i) else none
noncomputable def tSn (D : DD) (f x i : Nat) : Bool := decide (tL D f x i = 1)
/-- the first of so many for which P holds -/
def fsA (P : Nat → Bool) : Nat → Option Nat
  | 0 => none
  | n + 1 => match fsA P n with
    | some i => some i
    | none => if P n = true then some n else none
theorem fsA_no {P : Nat → Bool} : ∀ {n : Nat}, fsA P n = none ↔ ∀ i, i < n → P i = false
  | 0 => ⟨fun _ i hi => absurd hi (Nat.not_lt_zero i), fun _ => rfl⟩
  | n + 1 => by
    have ih := fsA_no (P := P) (n := n)
    unfold fsA
    constructor
    · intro h i hi
      split at h
      · cases h
      · next e =>
        by_cases c : i = n
        · rw [c]
          cases hp : P n with
          | false => rfl
          | true => rw [hp] at h; cases h
        · exact (ih.mp e) i (by omega)
    · intro h
      rw [ih.mpr (fun i hi => h i (by omega))]
      simp only
      rw [h n (by omega)]
      rfl
theorem fsA_at {P : Nat → Bool} {i : Nat} (h0 : fsA P i = none) (hp : P i = true) : ∀ n, i < n → fsA P n = some i
  | 0, h => absurd h (Nat.not_lt_zero i)
  | n + 1, h => by
    unfold fsA
    by_cases c : i = n
    · subst c
      rw [h0]
      simp only
      rw [hp]
      rfl
    · rw [fsA_at h0 hp n (by omega)]
/-- how many acts lead to place j -/
def tD (S : BS) (j : Nat) : Nat := dpF (fun i => (S.2.2.1 i).1) j j
/-- the search: place by place, until one act sees the flaw, or twelve acts are done -/
noncomputable def tRun (D : DD) (f : Nat) : Nat → Nat → BS → Option (Nat × Nat) × BS
  | 0, _, S => (none, S)
  | n + 1, k, S => if k < S.1 ∧ tD S k < 12 then (match fsA (tSn D f (S.2.1 k)) (dI D) with
    | some i => (some (k, i), bI (tNb D f) k (S.2.1 k) i S)
    | none => tRun D f n (k + 1) (bI (tNb D f) k (S.2.1 k) (dI D) S)) else (none, S)
noncomputable def tA0 (D : DD) : Int32 := kSe (tq0 D) 0 (kSu (tq0 D))
noncomputable def tB0 (D : DD) (f : Nat) : Int32 := kSe (tq1 D f) 0 (kSu (tq1 D f))
noncomputable def tL0 (D : DD) (f : Nat) : Nat := tLk D f 0 (tA0 D) (tB0 D f)
noncomputable def tY0 (D : DD) (f : Nat) : Nat := 64 * (tA0 D).toNatClampNeg + (tB0 D f).toNatClampNeg
noncomputable def tRes (D : DD) (f : Nat) : Option (Nat × Nat) × BS := if tL0 D f = 0 then tRun D f 131073 0 (S0F (tY0 D f)) else (none, (0, fun _ => 0, fun _ => (0, 0), 0))
/-- the acts of a test: to place k, then i -/
def tActs (S : BS) (k i j : Nat) : Nat := if j = tD S k then i else (S.2.2.1 (bkF (fun a => (S.2.2.1 a).1) (tD S k - 1 - j) k)).2
/-- the least test: how many acts, which; none: hidden -/
noncomputable def ltR (D : DD) (f : Nat) : Option (Nat × (Nat → Nat)) := if tL0 D f = 1 then some (0, fun _ => 0) else match (tRes D f).1 with
  | some p => some (tD (tRes D f).2 p.1 + 1, tActs (tRes D f).2 p.1 p.2)
  | none => none
def tVal (D : DD) (f x : Nat) : Prop := x / 4096 < 2 ^ dI D ∧ x / 64 % 64 < 2 ^ dR D ∧ x % 64 < 2 ^ dR D ∧ kOk (tq1 D f) (x % 64)
/-- what the search keeps -/
def TIn (D : DD) (f : Nat) (S : BS) : Prop := (∀ j, j < S.1 → tVal D f (S.2.1 j)) ∧ (∀ j, 0 < j → j < S.1 → (S.2.2.1 j).1 < j ∧ (S.2.2.1 j).2 < dI D ∧ S.2.1 j / 4096 = S.2.1 (S.2.2.1 j).1 / 4096 ^^^ 2 ^ (S.2.2.1 j).2) ∧ (∀ i j, i < j → j < S.1 → S.2.1 i ≠ S.2.1 j) ∧ S.2.2.1 0 = (0, 0) ∧ 0 < S.1
section TST
variable {D : DD} {f : Nat}
theorem tq_ok (hw : WD D) (hf : okW D (some f)) : WK (tq0 D) ∧ WK (tq1 D f) := ⟨WK_one hw okW_no okW_no, WK_one hw hf okW_no⟩
theorem tVal_lt (hw : WD D) {x : Nat} (h : tVal D f x) : x < 131072 := by
  have hpi := hw.pi
  have := h.1
  omega
theorem tY_val (hw : WD D) (hf : okW D (some f)) {x i : Nat} (hx : tVal D f x) (hi : i < dI D) (hl : tL D f x i = 0) : tVal D f (tY D f x i) ∧ tY D f x i / 4096 = x / 4096 ^^^ 2 ^ i ∧ (∃ s, s < 2 ^ dR D ∧ tA D x i = nI s ∧ tY D f x i / 64 % 64 = s) ∧ ∃ s, s < 2 ^ dR D ∧ tB D f x i = nI s ∧ tY D f x i % 64 = s := by
  obtain ⟨q0, q1⟩ := tq_ok hw hf
  have hpr := hw.pr
  have hpi := hw.pi
  have h1 := xor_pow_lt hx.1 hi
  unfold tL tLk at hl
  split at hl
  · split at hl <;> omega
  · split at hl
    · omega
    · next n1 n2 =>
      rcases kSe_c q0 (on := x / 4096 ^^^ 2 ^ i) hx.2.1 with e | ⟨s, a, e, c⟩
      · exact absurd e n1
      · rcases kSe_c q1 (on := x / 4096 ^^^ 2 ^ i) hx.2.2.1 with e2 | ⟨s2, a2, e2, c2⟩
        · exact absurd e2 n2
        · have ea : tA D x i = nI s := e
          have eb : tB D f x i = nI s2 := e2
          have b1 : s < 2 ^ dR D := a
          have b2 : s2 < 2 ^ dR D := a2
          have ey : tY D f x i = 4096 * (x / 4096 ^^^ 2 ^ i) + 64 * s + s2 := by
            unfold tY
            rw [ea, eb, nI_clamp (by omega), nI_clamp (by omega)]
          rw [ey]
          have m1 : (4096 * (x / 4096 ^^^ 2 ^ i) + 64 * s + s2) % 64 = s2 := by omega
          have m2 : (4096 * (x / 4096 ^^^ 2 ^ i) + 64 * s + s2) / 64 % 64 = s := by omega
          have m3 : (4096 * (x / 4096 ^^^ 2 ^ i) + 64 * s + s2) / 4096 = x / 4096 ^^^ 2 ^ i := by omega
          refine ⟨⟨by rw [m3]; exact h1, by rw [m2]; exact b1, by rw [m1]; exact b2, by rw [m1]; exact c2 hx.2.2.2⟩, m3, ⟨s, b1, ea, m2⟩, s2, b2, eb, m1⟩
theorem TIn.le (hw : WD D) {S : BS} (h : TIn D f S) : S.1 ≤ 131072 := pig 131072 S.1 S.2.1 (fun j hj => tVal_lt hw (h.1 j hj)) h.2.2.1
theorem TIn.add (hw : WD D) (hf : okW D (some f)) {S : BS} {k i : Nat} (h : TIn D f S) (hk : k < S.1) (hi : i < dI D) (hl : tL D f (S.2.1 k) i = 0) : TIn D f (bAdd S (tY D f (S.2.1 k) i) k i) := by
  have hy := tY_val hw hf (h.1 k hk) hi hl
  unfold bAdd
  split
  · exact h
  · next hm =>
    refine ⟨fun j hj => ?_, fun j h0 hj => ?_, fun a j ha hj => ?_, ?_, Nat.succ_pos _⟩
    · have hj2 : j < S.1 + 1 := hj
      show tVal D f (upN S.2.1 S.1 _ j)
      by_cases e : j = S.1
      · rw [e, upN_s]; exact hy.1
      · rw [upN_n e]; exact h.1 j (by omega)
    · have hj2 : j < S.1 + 1 := hj
      show (upP S.2.2.1 S.1 (k, i) j).1 < j ∧ (upP S.2.2.1 S.1 (k, i) j).2 < dI D ∧ upN S.2.1 S.1 _ j / 4096 = upN S.2.1 S.1 _ (upP S.2.2.1 S.1 (k, i) j).1 / 4096 ^^^ 2 ^ (upP S.2.2.1 S.1 (k, i) j).2
      by_cases e : j = S.1
      · rw [e, show upP S.2.2.1 S.1 (k, i) S.1 = (k, i) from if_pos rfl, upN_s, upN_n (show k ≠ S.1 by omega)]
        exact ⟨hk, hi, hy.2.1⟩
      · have h2 := h.2.1 j h0 (by omega)
        rw [show upP S.2.2.1 S.1 (k, i) j = S.2.2.1 j from if_neg e, upN_n e, upN_n (by omega)]
        exact h2
    · have hj2 : j < S.1 + 1 := hj
      show upN S.2.1 S.1 _ a ≠ upN S.2.1 S.1 _ j
      rw [upN_n (show a ≠ S.1 by omega)]
      by_cases e : j = S.1
      · rw [e, upN_s]
        intro z
        exact hm (memB_iff.mpr ⟨a, by omega, z⟩)
      · rw [upN_n e]
        exact h.2.2.1 a j ha (by omega)
    · show upP S.2.2.1 S.1 (k, i) 0 = (0, 0)
      rw [show upP S.2.2.1 S.1 (k, i) 0 = S.2.2.1 0 from if_neg (by have := h.2.2.2.2; omega)]
      exact h.2.2.2.1
theorem bI_at {S : BS} {k x : Nat} {nb : Nat → Nat → Option Nat} (hk : k < S.1) (hx : x = S.2.1 k) (i : Nat) : k < (bI nb k x i S).1 ∧ (bI nb k x i S).2.1 k = x := by
  have h1 := bI_mono nb k x S i
  exact ⟨by omega, by rw [(h1.2 k hk).1, hx]⟩
theorem TIn.I (hw : WD D) (hf : okW D (some f)) {S : BS} {k : Nat} (h : TIn D f S) (hk : k < S.1) : ∀ i, i ≤ dI D → TIn D f (bI (tNb D f) k (S.2.1 k) i S)
  | 0, _ => h
  | i + 1, hi => by
    have ih := TIn.I hw hf h hk i (by omega)
    have ha := bI_at (nb := tNb D f) hk rfl i
    have key : ∀ {S2 : BS}, TIn D f S2 → k < S2.1 → S2.2.1 k = S.2.1 k → TIn D f (match tNb D f (S.2.1 k) i with
        | none => (S2.1, S2.2.1, S2.2.2.1, S2.2.2.2 + 1)
        | some y => bAdd S2 y k i) := by
      intro S2 h2 hk2 he
      unfold tNb
      by_cases c : tL D f (S.2.1 k) i = 0
      · rw [if_pos c]
        rw [← he] at c ⊢
        exact h2.add hw hf hk2 (by omega) c
      · rw [if_neg c]
        exact h2
    exact key ih ha.1 ha.2
/-- the acts to what was there stay; what comes is one act behind -/
theorem bI_tD {S : BS} {k x : Nat} {nb : Nat → Nat → Option Nat} (ho : ∀ j, 0 < j → j < S.1 → (S.2.2.1 j).1 < j) (h0 : 0 < S.1) (hk : k < S.1) : ∀ i, (∀ j, 0 < j → j < (bI nb k x i S).1 → ((bI nb k x i S).2.2.1 j).1 < j) ∧ (∀ j, j < S.1 → tD (bI nb k x i S) j = tD S j) ∧ ∀ j, S.1 ≤ j → j < (bI nb k x i S).1 → tD (bI nb k x i S) j = tD S k + 1
  | 0 => ⟨ho, fun _ _ => rfl, fun j h1 h2 => absurd h2 (Nat.not_lt.mpr h1)⟩
  | i + 1 => by
    have ih := bI_tD (nb := nb) (x := x) ho h0 hk i
    have hm := bI_mono nb k x S i
    have key : ∀ {S2 : BS}, S.1 ≤ S2.1 → (∀ j, 0 < j → j < S2.1 → (S2.2.2.1 j).1 < j) → (∀ j, j < S.1 → tD S2 j = tD S j) → (∀ j, S.1 ≤ j → j < S2.1 → tD S2 j = tD S k + 1) → ∀ o : Option Nat, (∀ j, 0 < j → j < (match o with
        | none => (S2.1, S2.2.1, S2.2.2.1, S2.2.2.2 + 1)
        | some y => bAdd S2 y k i).1 → ((match o with
        | none => (S2.1, S2.2.1, S2.2.2.1, S2.2.2.2 + 1)
        | some y => bAdd S2 y k i).2.2.1 j).1 < j) ∧ (∀ j, j < S.1 → tD (match o with
        | none => (S2.1, S2.2.1, S2.2.2.1, S2.2.2.2 + 1)
        | some y => bAdd S2 y k i) j = tD S j) ∧ ∀ j, S.1 ≤ j → j < (match o with
        | none => (S2.1, S2.2.1, S2.2.2.1, S2.2.2.2 + 1)
        | some y => bAdd S2 y k i).1 → tD (match o with
        | none => (S2.1, S2.2.1, S2.2.2.1, S2.2.2.2 + 1)
        | some y => bAdd S2 y k i) j = tD S k + 1 := by
      intro S2 hle g1 g2 g3 o
      cases o with
      | none => exact ⟨g1, g2, g3⟩
      | some y =>
        simp only
        unfold bAdd
        split
        · exact ⟨g1, g2, g3⟩
        · have hcg : ∀ j, j < S2.1 → tD (S2.1 + 1, upN S2.2.1 S2.1 y, upP S2.2.2.1 S2.1 (k, i), S2.2.2.2) j = tD S2 j := by
            intro j hj
            refine dpF_cg (Fn := S2.1) (fun a b1 b2 => ⟨g1 a b1 b2, ?_⟩) j j hj
            show (upP S2.2.2.1 S2.1 (k, i) a).1 = _
            rw [show upP S2.2.2.1 S2.1 (k, i) a = S2.2.2.1 a from if_neg (by omega)]
          have gn : ∀ j, 0 < j → j < S2.1 + 1 → (upP S2.2.2.1 S2.1 (k, i) j).1 < j := by
            intro j b1 b2
            by_cases e : j = S2.1
            · rw [e, show upP S2.2.2.1 S2.1 (k, i) S2.1 = (k, i) from if_pos rfl]
              show k < S2.1
              omega
            · rw [show upP S2.2.2.1 S2.1 (k, i) j = S2.2.2.1 j from if_neg e]
              exact g1 j b1 (by omega)
          refine ⟨gn, fun j hj => ?_, fun j b1 b2 => ?_⟩
          · rw [hcg j (by omega), g2 j hj]
          · have b3 : j < S2.1 + 1 := b2
            by_cases e : j = S2.1
            · have e2 : tD (S2.1 + 1, upN S2.2.1 S2.1 y, upP S2.2.2.1 S2.1 (k, i), S2.2.2.2) S2.1 = tD (S2.1 + 1, upN S2.2.1 S2.1 y, upP S2.2.2.1 S2.1 (k, i), S2.2.2.2) k + 1 := by
                unfold tD
                rw [dpF_s (fr := fun i_1 => (upP S2.2.2.1 S2.1 (k, i) i_1).1) (Fn := S2.1 + 1) gn (by omega) (by omega)]
                rw [show (upP S2.2.2.1 S2.1 (k, i) S2.1).1 = k from by rw [show upP S2.2.2.1 S2.1 (k, i) S2.1 = (k, i) from if_pos rfl]]
              rw [e, e2, hcg k (by omega), g2 k hk]
            · rw [hcg j (by omega)]
              exact g3 j b1 (by omega)
    exact key hm.1 ih.1 ih.2.1 ih.2.2 (nb x i)
end TST
