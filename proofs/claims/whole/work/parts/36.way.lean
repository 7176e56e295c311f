/-! x's search for where a state settles: its way, step by step -/
def upN (f : Nat → Nat) (i x : Nat) : Nat → Nat := fun j => if j = i then x else f j
theorem upN_s {f : Nat → Nat} {i x : Nat} : upN f i x i = x := if_pos rfl
theorem upN_n {f : Nat → Nat} {i x j : Nat} (h : j ≠ i) : upN f i x j = f j := if_neg h
/-- how many of a row are c -/
def cntC (c : Int32) (B : Nat) (g : Nat → Int32) : Nat → Nat
  | 0 => 0
  | j + 1 => cntC c B g j + (if g (B + j) = c then 1 else 0)
theorem cntC_le (c : Int32) (B : Nat) (g : Nat → Int32) : ∀ j, cntC c B g j ≤ j
  | 0 => Nat.le_refl 0
  | j + 1 => by
    have := cntC_le c B g j
    unfold cntC
    split <;> omega
theorem cntC_off {c : Int32} {B u : Nat} {g : Nat → Int32} {x : Int32} (hx : x ≠ c) (hg : g (B + u) = c) : ∀ j, (j ≤ u → cntC c B (upd g (B + u) x) j = cntC c B g j) ∧ (u < j → cntC c B (upd g (B + u) x) j + 1 = cntC c B g j)
  | 0 => ⟨fun _ => rfl, fun h => absurd h (Nat.not_lt_zero u)⟩
  | j + 1 => by
    have ih := cntC_off hx hg j
    constructor
    · intro h
      unfold cntC
      rw [ih.1 (by omega), show upd g (B + u) x (B + j) = g (B + j) from pk_un (by omega)]
    · intro h
      unfold cntC
      by_cases e : j = u
      · subst e
        rw [ih.1 (Nat.le_refl _), show upd g (B + j) x (B + j) = x from pk_us, if_neg hx, if_pos hg]
      · rw [show upd g (B + u) x (B + j) = g (B + j) from pk_un (by omega)]
        have := ih.2 (by omega)
        omega
theorem cntC_same {c : Int32} {B u : Nat} {g : Nat → Int32} {x : Int32} (hx : x ≠ c) (hg : g (B + u) ≠ c) : ∀ j, cntC c B (upd g (B + u) x) j = cntC c B g j
  | 0 => rfl
  | j + 1 => by
    unfold cntC
    rw [cntC_same hx hg j]
    by_cases e : j = u
    · subst e
      rw [show upd g (B + j) x (B + j) = x from pk_us, if_neg hx, if_neg hg]
    · rw [show upd g (B + u) x (B + j) = g (B + j) from pk_un (by omega)]
/-- what is being looked at behind place i of a way of D -/
def ipB (D : Nat) (wy : Nat → Nat) (ep : Option Nat) (i x : Nat) : Prop := (i + 1 < D ∧ x = wy (i + 1)) ∨ (i + 1 = D ∧ ep = some x)
/-- what is known of a state on the way: its end e as far as its next ones are looked at, l being left -/
def ENB (nx : Nat → Nat) (nR u l : Nat) (e : Int32) (ip : Nat → Prop) : Prop :=
  (nx u = 0 ∧ e = nI u ∧ l = 0) ∨ (nx u ≠ 0 ∧ e = -1 ∧ ∀ r, r < nR → (nx u).testBit r = true → l.testBit r = true ∨ ip (u ^^^ 2 ^ r)) ∨
  (∃ s, s < 2 ^ nR ∧ nx u ≠ 0 ∧ e = nI s ∧ (∀ r, r < nR → (nx u).testBit r = true → l.testBit r = true ∨ ip (u ^^^ 2 ^ r) ∨ ST nx nR (u ^^^ 2 ^ r) s) ∧ ∃ x, isN nx nR u x ∧ ST nx nR x s) ∨
  (e = -2 ∧ l = 0 ∧ (∀ s, ¬ ST nx nR u s) ∧ ∀ x, ¬ ip x)
theorem ENB.cg {nx : Nat → Nat} {nR u l : Nat} {e : Int32} {ip ip' : Nat → Prop} (h : ENB nx nR u l e ip) (hi : ∀ x, ip x ↔ ip' x) : ENB nx nR u l e ip' := by
  rw [show ip' = ip from funext (fun x => propext (hi x).symm)]
  exact h
/-- what may be found of a next one x of u -/
def FND (nx : Nat → Nat) (nR u x : Nat) (f : Int32) : Prop := (∃ s, s < 2 ^ nR ∧ f = nI s ∧ ST nx nR x s) ∨ (f < 0 ∧ ∀ s, ¬ ST nx nR u s)
def jC (e f : Int32) : Prop := ¬ f < 0 ∧ (e = -1 ∨ e = f)
noncomputable def jE (e f : Int32) : Int32 := @ite _ (jC e f) (Classical.propDecidable _) f (-2)
noncomputable def jL (e f : Int32) (l : Nat) : Nat := @ite _ (jC e f) (Classical.propDecidable _) l 0
theorem ENB.join {nx : Nat → Nat} {nR u l x : Nat} {e f : Int32} (hR6 : nR ≤ 6) (hnx : ∀ u, nx u < 2 ^ nR) (h : ENB nx nR u l e (fun y => y = x)) (hx : isN nx nR u x) (hf : FND nx nR u x f) : ENB nx nR u (jL e f l) (jE e f) (fun _ => False) := by
  have hp : 2 ^ nR ≤ 64 := Nat.pow_le_pow_right (n := 2) (by decide) hR6
  have h0 : nx u ≠ 0 := fun z => by
    obtain ⟨r, _, hb, _⟩ := hx
    rw [z, Nat.zero_testBit] at hb
    cases hb
  have bad : ¬ jC e f → (∀ s, ¬ ST nx nR u s) → ENB nx nR u (jL e f l) (jE e f) (fun _ => False) := fun hc hn => by
    unfold jL jE
    rw [if_neg hc, if_neg hc]
    exact Or.inr (Or.inr (Or.inr ⟨rfl, rfl, hn, fun _ z => z⟩))
  rcases hf with ⟨s, hs, rfl, hst⟩ | ⟨hneg, hno⟩
  · have hpos : ¬ nI s < 0 := nI_pos (by omega)
    rcases h with h | ⟨_, rfl, h2⟩ | ⟨t, ht, _, rfl, h2, y, hy, hyt⟩ | ⟨_, _, _, h2⟩
    · exact absurd h.1 h0
    · have hc : jC (-1) (nI s) := ⟨hpos, Or.inl rfl⟩
      unfold jL jE
      rw [if_pos hc, if_pos hc]
      refine Or.inr (Or.inr (Or.inl ⟨s, hs, h0, rfl, fun r hr hb => ?_, x, hx, hst⟩))
      rcases h2 r hr hb with h3 | h3
      · exact Or.inl h3
      · exact Or.inr (Or.inr (h3 ▸ hst))
    · by_cases e : t = s
      · subst e
        have hc : jC (nI t) (nI t) := ⟨hpos, Or.inr rfl⟩
        unfold jL jE
        rw [if_pos hc, if_pos hc]
        refine Or.inr (Or.inr (Or.inl ⟨t, ht, h0, rfl, fun r hr hb => ?_, x, hx, hst⟩))
        rcases h2 r hr hb with h3 | h3 | h3
        · exact Or.inl h3
        · exact Or.inr (Or.inr (h3 ▸ hst))
        · exact Or.inr (Or.inr h3)
      · refine bad (fun z => ?_) (fun q hq => e ?_)
        · rcases z.2 with z | z
          · exact (nI_n2 (s := t) (by omega)).2.2 z
          · exact e ((nI_eq (by omega) (by omega)).mp z)
        · rw [ST.one hnx hyt (hq.next hy), ST.one hnx hst (hq.next hx)]
    · exact absurd rfl (h2 x)
  · exact bad (fun z => z.1 hneg) hno
theorem ENB.pick {nx : Nat → Nat} {nR u l r : Nat} {e : Int32} (h : ENB nx nR u l e (fun _ => False)) (hr : l.testBit r = true) : ENB nx nR u (l ^^^ 2 ^ r) e (fun y => y = u ^^^ 2 ^ r) := by
  have hl : l ≠ 0 := fun z => by rw [z, Nat.zero_testBit] at hr; cases hr
  have hb : ∀ q, l.testBit q = true → (l ^^^ 2 ^ r).testBit q = true ∨ u ^^^ 2 ^ q = u ^^^ 2 ^ r := fun q hq => by
    by_cases e : q = r
    · exact Or.inr (by rw [e])
    · refine Or.inl ?_
      rw [Nat.testBit_xor, Nat.testBit_two_pow, hq, decide_eq_false (fun z => e z.symm)]
      rfl
  rcases h with h | ⟨h0, h1, h2⟩ | ⟨s, hs, h0, h1, h2, h3⟩ | h
  · exact absurd h.2.2 hl
  · refine Or.inr (Or.inl ⟨h0, h1, fun q hq hb2 => ?_⟩)
    rcases h2 q hq hb2 with h4 | h4
    · exact hb q h4
    · exact h4.elim
  · refine Or.inr (Or.inr (Or.inl ⟨s, hs, h0, h1, fun q hq hb2 => ?_, h3⟩))
    rcases h2 q hq hb2 with h4 | h4 | h4
    · rcases hb q h4 with h5 | h5
      · exact Or.inl h5
      · exact Or.inr (Or.inl h5)
    · exact h4.elim
    · exact Or.inr (Or.inr h4)
  · exact absurd h.2.1 hl
def MIv (nx : Nat → Nat) (nR v : Nat) (x : Int32) : Prop := x = -1 ∨ (∃ s, s < 2 ^ nR ∧ x = nI s ∧ ST nx nR v s) ∨ (x = -2 ∧ ∀ s, ¬ ST nx nR v s)
def JI (nx : Nat → Nat) (nR B up0 : Nat) (m0 m : Nat → Int32) (D : Nat) (wy lf : Nat → Nat) (en : Nat → Int32) (ep : Option Nat) : Prop :=
  (∀ i, i < D → wy i < 2 ^ nR ∧ m (B + wy i) = -3 ∧ lf i < 2 ^ nR ∧ (∀ r, (lf i).testBit r = true → (nx (wy i)).testBit r = true) ∧ ENB nx nR (wy i) (lf i) (en i) (ipB D wy ep i)) ∧
  (∀ i j, i < j → j < D → wy i ≠ wy j) ∧
  (∀ i, i + 1 < D → isN nx nR (wy i) (wy (i + 1))) ∧
  (∀ v, ep = some v → v < 2 ^ nR ∧ m (B + v) = -1 ∧ (D = 0 → v = up0) ∧ ∀ i, i + 1 = D → isN nx nR (wy i) v) ∧
  (∀ v, v < 2 ^ nR → (∀ i, i < D → wy i ≠ v) → MIv nx nR v (m (B + v))) ∧
  (∀ w, w < B ∨ B + 2 ^ nR ≤ w → m w = m0 w) ∧
  (0 < D → wy 0 = up0) ∧ (D = 0 → ep = none → m (B + up0) ≠ -1) ∧
  D + cntC (-1) B m (2 ^ nR) ≤ 64
section WAY
variable {nx : Nat → Nat} {nR B up0 : Nat} {m0 m : Nat → Int32} {D : Nat} {wy lf : Nat → Nat} {en : Nat → Int32}
theorem JI.enter {v : Nat} (hnx : ∀ u, nx u < 2 ^ nR) (h : JI nx nR B up0 m0 m D wy lf en (some v)) : JI nx nR B up0 m0 (upd m (B + v) (-3)) (D + 1) (upN wy D v) (upN lf D (nx v)) (upd en D (if nx v = 0 then nI v else -1)) none := by
  obtain ⟨a1, a2, a3, a4, a5, a6, a7, a8, a9⟩ := h
  obtain ⟨v1, v2, v3, v4⟩ := a4 v rfl
  have hne : ∀ i, i < D → wy i ≠ v := fun i hi z => by
    have := (a1 i hi).2.1
    rw [z, v2] at this
    exact absurd this (by decide)
  have hm : ∀ x, x ≠ v → upd m (B + v) (-3) (B + x) = m (B + x) := fun x hx => pk_un (by omega)
  have hc := (cntC_off (x := -3) (by decide) v2 (2 ^ nR)).2 v1
  refine ⟨fun i hi => ?_, fun i j hij hj => ?_, fun i hi => ?_, fun w hw => (by cases hw), fun w hw hno => ?_, fun w hw => ?_, fun _ => ?_, fun z => (by omega), by omega⟩
  · by_cases e : i = D
    · subst e
      rw [upN_s, upN_s]
      refine ⟨v1, pk_us, hnx v, fun r hr => hr, ?_⟩
      rw [show upd en i (if nx v = 0 then nI v else -1) i = if nx v = 0 then nI v else -1 from pk_us]
      by_cases h0 : nx v = 0
      · rw [if_pos h0]; exact Or.inl ⟨h0, rfl, h0⟩
      · rw [if_neg h0]; exact Or.inr (Or.inl ⟨h0, rfl, fun r _ hb => Or.inl hb⟩)
    · have hiD : i < D := by omega
      obtain ⟨b1, b2, b3, b4, b5⟩ := a1 i hiD
      rw [upN_n e, upN_n e, show upd en D (if nx v = 0 then nI v else -1) i = en i from pk_un e]
      refine ⟨b1, (hm _ (hne i hiD)).trans b2, b3, b4, b5.cg (fun x => ?_)⟩
      unfold ipB
      by_cases e2 : i + 1 = D
      · rw [show upN wy D v (i + 1) = v from by rw [e2]; exact upN_s]
        constructor
        · rintro (⟨z, _⟩ | ⟨_, z⟩)
          · omega
          · exact Or.inl ⟨by omega, (Option.some.inj z).symm⟩
        · rintro (⟨_, z⟩ | ⟨_, z⟩)
          · exact Or.inr ⟨e2, by rw [z]⟩
          · cases z
      · rw [upN_n e2]
        constructor
        · rintro (⟨z, z2⟩ | ⟨z, _⟩)
          · exact Or.inl ⟨by omega, z2⟩
          · exact absurd z e2
        · rintro (⟨z, z2⟩ | ⟨_, z⟩)
          · exact Or.inl ⟨by omega, z2⟩
          · cases z
  · rw [upN_n (show i ≠ D by omega)]
    by_cases e : j = D
    · rw [e, upN_s]; exact hne i (by omega)
    · rw [upN_n e]; exact a2 i j hij (by omega)
  · rw [upN_n (show i ≠ D by omega)]
    by_cases e : i + 1 = D
    · rw [e, upN_s]; exact v4 i e
    · rw [upN_n e]; exact a3 i (by omega)
  · have hv : w ≠ v := fun z => hno D (Nat.lt_succ_self D) (by rw [upN_s, z])
    rw [hm w hv]
    exact a5 w hw (fun i hi => by have := hno i (by omega); rw [upN_n (by omega)] at this; exact this)
  · rw [show upd m (B + v) (-3) w = m w from pk_un (by omega)]
    exact a6 w hw
  · by_cases e : D = 0
    · subst e; rw [upN_s]; exact v3 rfl
    · rw [upN_n (show 0 ≠ D by omega)]; exact a7 (by omega)
/-- a state on top with nothing left: it is known -/
theorem JI.top {d : Nat} (hnx : ∀ u, nx u < 2 ^ nR) (h : JI nx nR B up0 m0 m (d + 1) wy lf en none) (hl : lf d = 0) : (∃ s, s < 2 ^ nR ∧ en d = nI s ∧ ST nx nR (wy d) s) ∨ (en d = -2 ∧ ∀ s, ¬ ST nx nR (wy d) s) := by
  obtain ⟨b1, _, _, _, b5⟩ := h.1 d (Nat.lt_succ_self d)
  have hip : ∀ x, ¬ ipB (d + 1) wy none d x := fun x z => by
    rcases z with ⟨z, _⟩ | ⟨_, z⟩
    · omega
    · cases z
  rw [hl] at b5
  rcases b5 with ⟨h0, h1, _⟩ | ⟨h0, _, h2⟩ | ⟨s, hs, h0, h1, h2, _⟩ | ⟨h1, _, h2, _⟩
  · exact Or.inl ⟨wy d, b1, h1, ST.self h0⟩
  · obtain ⟨x, r, hr, hb, _⟩ := isN_ex h0 (hnx (wy d))
    rcases h2 r hr hb with z | z
    · rw [Nat.zero_testBit] at z; cases z
    · exact absurd z (hip _)
  · refine Or.inl ⟨s, hs, h1, ST.all h0 (fun x ⟨r, hr, hb, hx⟩ => ?_)⟩
    rcases h2 r hr hb with z | z | z
    · rw [Nat.zero_testBit] at z; cases z
    · exact absurd z (hip _)
    · exact hx ▸ z
  · exact Or.inr ⟨h1, h2⟩
end WAY
