/-! the model's pile of signs that wait, pure -/
/-- the pile W (top first) in a row -/
def rowP (g : Nat → Int32) : List Nat → Prop
  | [] => True
  | k :: W => g W.length = nI k ∧ rowP g W
theorem rowP_up {g : Nat → Int32} {i : Nat} {v : Int32} : ∀ W : List Nat, W.length ≤ i → rowP g W → rowP (upd g i v) W
  | [], _, _ => True.intro
  | k :: W, hi, h => by
    have hi : W.length + 1 ≤ i := hi
    exact ⟨by rw [pk_un (by omega)]; exact h.1, rowP_up W (by omega) h.2⟩
theorem rowP_push {g : Nat → Int32} {k : Nat} {W : List Nat} (h : rowP g W) : rowP (upd g W.length (nI k)) (k :: W) := ⟨pk_us, rowP_up W (Nat.le_refl _) h⟩
/-- codes in a row from c0 on -/
def rowQ (g : Nat → Int32) (c0 : Nat) (c : List Nat) : Prop := ∀ i, i < c.length → g (c0 + i) = nI (c.getD i 0)
theorem rowQ_app {g : Nat → Int32} {c0 k : Nat} {c : List Nat} (h : rowQ g c0 c) : rowQ (upd g (c0 + c.length) (nI k)) c0 (c ++ [k]) := fun i hi => by
  rw [List.length_append] at hi
  have hi : i < c.length + 1 := hi
  rw [getD_app]
  by_cases e : i = c.length
  · rw [e, pk_us, if_neg (by omega), if_pos rfl]
  · rw [pk_un (by omega), if_pos (by omega)]
    exact h i (by omega)
/-- how many levels are open -/
def opC : List Nat → Nat
  | [] => 0
  | k :: W => (if k = 6 then 1 else 0) + opC W
/-- within a level at most one OR below one AND -/
def wpl : List Nat → Prop
  | [] => True
  | k :: W => (k = 6 ∨ (k = 10 ∧ (W = [] ∨ W.head? = some 6)) ∨ (k = 9 ∧ (W = [] ∨ W.head? = some 6 ∨ W.head? = some 10))) ∧ wpl W
def gs1 : List Nat → List Nat × List Nat
  | [] => ([], [])
  | k :: W => if k = 9 then (W, [50]) else (k :: W, [])
def gs2 (q : Nat) : List Nat → List Nat × List Nat
  | [] => ([], [])
  | k :: W => if q ≠ 9 ∧ k = 10 then (W, [51]) else (k :: W, [])
/-- what goes leaves ahead of its look at the token (of kind q): the pile, the codes that it writes -/
def gsA (q : Nat) (W : List Nat) : List Nat × List Nat := ((gs2 q (gs1 W).1).1, (gs1 W).2 ++ (gs2 q (gs1 W).1).2)
theorem gs1_w {W : List Nat} (h : wpl W) : wpl (gs1 W).1 ∧ opC (gs1 W).1 = opC W ∧ (gs1 W).1.length ≤ W.length ∧ ((gs1 W).1 = [] ∨ (gs1 W).1.head? = some 6 ∨ (gs1 W).1.head? = some 10) := by
  cases W with
  | nil => exact ⟨True.intro, rfl, Nat.le_refl _, Or.inl rfl⟩
  | cons k W =>
    obtain ⟨h1, h2⟩ := h
    have e1 : gs1 (k :: W) = if k = 9 then (W, [50]) else (k :: W, []) := rfl
    rw [e1]
    by_cases c : k = 9
    · rw [if_pos c]
      refine ⟨h2, ?_, Nat.le_succ _, ?_⟩
      · show opC W = (if k = 6 then 1 else 0) + opC W
        rw [if_neg (by omega)]
        omega
      · rcases h1 with z | ⟨z, _⟩ | ⟨_, z⟩
        · omega
        · omega
        · exact z
    · rw [if_neg c]
      refine ⟨⟨h1, h2⟩, rfl, Nat.le_refl _, Or.inr ?_⟩
      rcases h1 with z | ⟨z, _⟩ | ⟨z, _⟩
      · exact Or.inl (by rw [z]; rfl)
      · exact Or.inr (by rw [z]; rfl)
      · exact absurd z c
theorem gs2_w {q : Nat} {W : List Nat} (h : wpl W) (hh : W = [] ∨ W.head? = some 6 ∨ W.head? = some 10) : wpl (gs2 q W).1 ∧ opC (gs2 q W).1 = opC W ∧ (gs2 q W).1.length ≤ W.length ∧ ((gs2 q W).1 = [] ∨ (gs2 q W).1.head? = some 6 ∨ (q = 9 ∧ (gs2 q W).1.head? = some 10)) := by
  cases W with
  | nil => exact ⟨True.intro, rfl, Nat.le_refl _, Or.inl rfl⟩
  | cons k W =>
    obtain ⟨h1, h2⟩ := h
    have e1 : gs2 q (k :: W) = if q ≠ 9 ∧ k = 10 then (W, [51]) else (k :: W, []) := rfl
    rw [e1]
    by_cases c : q ≠ 9 ∧ k = 10
    · rw [if_pos c]
      refine ⟨h2, ?_, Nat.le_succ _, ?_⟩
      · show opC W = (if k = 6 then 1 else 0) + opC W
        rw [if_neg (by omega)]
        omega
      · rcases h1 with z | ⟨_, z⟩ | ⟨z, _⟩
        · omega
        · exact z.imp id Or.inl
        · omega
    · rw [if_neg c]
      refine ⟨⟨h1, h2⟩, rfl, Nat.le_refl _, Or.inr ?_⟩
      rcases hh with z | z | z
      · cases z
      · exact Or.inl z
      · have e : k = 10 := by injection z
        refine Or.inr ⟨?_, z⟩
        by_cases c9 : q = 9
        · exact c9
        · exact absurd ⟨c9, e⟩ c
/-- a level is closed, or the pile is empty: what goes finds when no sign comes -/
theorem gsA_w {q : Nat} {W : List Nat} (h : wpl W) : wpl (gsA q W).1 ∧ opC (gsA q W).1 = opC W ∧ (gsA q W).1.length ≤ W.length ∧ ((gsA q W).1 = [] ∨ (gsA q W).1.head? = some 6 ∨ (q = 9 ∧ (gsA q W).1.head? = some 10)) := by
  obtain ⟨a1, a2, a3, a4⟩ := gs1_w h
  obtain ⟨b1, b2, b3, b4⟩ := gs2_w (q := q) a1 a4
  exact ⟨b1, b2.trans a2, Nat.le_trans b3 a3, b4⟩
/-- goes, from token t on with pile W: 0 a fault (then its number), 1 no, 2 yes; where it stands, the pile, the codes written -/
def gsP (kk : Nat → Nat) : Nat → Nat → List Nat → List Nat → (Nat × Nat) × Nat × List Nat × List Nat
  | 0, t, W, c => ((0, 0), t, W, c)
  | f + 1, t, W, c =>
    if kk t = 9 ∨ kk t = 10 then (if t = 400 then ((0, 2), t, W, c) else ((2, 0), t + 1, kk t :: (gsA (kk t) W).1, c ++ (gsA (kk t) W).2))
    else if (gsA (kk t) W).1 = [] then ((1, 0), t, [], c ++ (gsA (kk t) W).2)
    else if kk t = 7 then (if t = 400 then ((0, 2), t, W, c) else gsP kk f (t + 1) (gsA (kk t) W).1.tail (c ++ (gsA (kk t) W).2))
    else ((0, 1), t, W, c)
