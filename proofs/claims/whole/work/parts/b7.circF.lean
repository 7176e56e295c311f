/-! what a circuit's row of tokens means; walks along its contacts come to the same -/
abbrev EV : Type := List (Bool × Bool)
def unE (v : Bool) : EV → EV
  | [] => []
  | x :: S => (x.1, x.2 && v) :: S
def orE : EV → EV
  | [] => []
  | x :: S => (x.1 || x.2, true) :: S
def poE : EV → EV
  | x :: y :: S => (y.1, y.2 && (x.1 || x.2)) :: S
  | S => S
def stE (p : Nat → Bool) (k n : Nat) (S : EV) : EV := if k = 2 then unE (p n) S else if k = 16 then orE S else if k = 17 then (false, true) :: S else if k = 18 then poE S else S
/-- the tokens of a circuit by their kinds, from the left to the right; n counts the names -/
def evE (p : Nat → Bool) : List Nat → Nat → EV → EV
  | [], _, S => S
  | k :: r, n, S => evE p r (if k = 2 then n + 1 else n) (stE p k n S)
def fiE : EV → Bool
  | [] => false
  | x :: _ => x.1 || x.2
def CTk (ks : List Nat) (n : Nat) (p : Nat → Bool) : Bool := fiE (evE p ks n [(false, true)])
/-- how many names -/
def nmE : List Nat → Nat
  | [] => 0
  | k :: r => (if k = 2 then 1 else 0) + nmE r
/-- rows of tokens that a circuit may be, from a state and a depth on -/
def wfE : Nat → Nat → List Nat → Prop
  | s, d, [] => s = 12 ∧ d = 0
  | s, d, k :: r => (s = 10 ∧ ((k = 2 ∧ wfE 12 d r) ∨ (k = 14 ∧ wfE 11 d r) ∨ (k = 17 ∧ d < 4 ∧ wfE 10 (d + 1) r))) ∨ (s = 11 ∧ k = 2 ∧ wfE 12 d r) ∨ (s = 12 ∧ (((k = 15 ∨ k = 16) ∧ wfE 10 d r) ∨ (k = 18 ∧ 0 < d ∧ wfE 12 (d - 1) r)))
abbrev GE : Type := Nat × (Nat → Int32) × (Nat → Int32) × (Nat → Int32)
def gsE (k n : Nat) (g : GE) : GE := if k = 15 then (g.1, upd g.2.1 g.1 (nI n), g.2.2.1, g.2.2.2)
  else if k = 16 then (g.1, upd g.2.1 g.1 (g.2.2.2 g.1), upd g.2.2.1 g.1 (nI n), g.2.2.2)
  else if k = 18 ∧ g.1 + 1 < 5 then (g.1 + 1, upd g.2.1 (g.1 + 1) (g.2.1 g.1), upd g.2.2.1 (g.1 + 1) (g.2.2.1 g.1), upd g.2.2.2 (g.1 + 1) (g.2.1 g.1))
  else if k = 17 ∧ 0 < g.1 then (g.1 - 1, g.2.1, g.2.2.1, g.2.2.2)
  else g
/-- levels and goals, from the right to the left: x's way -/
def goE : List Nat → Nat → GE
  | [], _ => (0, fun _ => -1, fun _ => -2, fun _ => -1)
  | k :: r, n => gsE k n (goE r (if k = 2 then n + 1 else n))
theorem goE_l : ∀ {r : List Nat} {s d n : Nat}, wfE s d r → d ≤ 4 → (goE r n).1 = d
  | [], s, d, n, h, _ => h.2.symm
  | k :: r, s, d, n, h, hd => by
    rcases h with ⟨_, ⟨rfl, h⟩ | ⟨rfl, h⟩ | ⟨rfl, h4, h⟩⟩ | ⟨_, rfl, h⟩ | ⟨_, ⟨rfl | rfl, h⟩ | ⟨rfl, h0, h⟩⟩
    · exact goE_l (r := r) (n := n + 1) h hd
    · exact goE_l (r := r) (n := n) h hd
    · have := goE_l (n := n) h (by omega)
      show (gsE 17 n (goE r n)).1 = d
      unfold gsE
      rw [if_neg (by decide), if_neg (by decide), if_neg (fun z => absurd z.1 (by decide)), if_pos ⟨rfl, by omega⟩]
      show (goE r n).1 - 1 = d
      omega
    · exact goE_l (r := r) (n := n + 1) h hd
    · exact goE_l (r := r) (n := n) h hd
    · exact goE_l (r := r) (n := n) h hd
    · have := goE_l (n := n) h (by omega)
      show (gsE 18 n (goE r n)).1 = d
      unfold gsE
      rw [if_neg (by decide), if_neg (by decide), if_pos ⟨rfl, by omega⟩]
      show (goE r n).1 + 1 = d
      omega
/-- a walk with the contacts closed as p tells -/
def wkP (p : Nat → Bool) (wc wo : Nat → Int32) (N : Nat) : Nat → Int32 → Int32
  | 0, c => c
  | f + 1, c => if c < 0 ∨ nI N ≤ c then c else wkP p wc wo N f (if p c.toNatClampNeg = true then wc c.toNatClampNeg else wo c.toNatClampNeg)
theorem wk_P {wc wo : Nat → Int32} {z : Int64} {N : Nat} : ∀ (f : Nat) (c : Int32), wk wc wo z N f c = wkP (bl z) wc wo N f c
  | 0, _ => rfl
  | f + 1, c => by
    unfold wk wkP
    split
    · rfl
    · exact wk_P f _
def WV (p : Nat → Bool) (wc wo : Nat → Int32) (N f : Nat) (g : Int32) (v : Bool) : Prop := wkP p wc wo N f g = if v = true then -1 else -2
theorem wkP_s {p : Nat → Bool} {wc wo : Nat → Int32} {N : Nat} : ∀ (f : Nat) (c : Int32), wkP p wc wo N f c < 0 → wkP p wc wo N (f + 1) c = wkP p wc wo N f c
  | 0, c, h => if_pos (Or.inl h)
  | f + 1, c, h => by
    by_cases q : c < 0 ∨ nI N ≤ c
    · have e1 : wkP p wc wo N (f + 1 + 1) c = c := if_pos q
      have e2 : wkP p wc wo N (f + 1) c = c := if_pos q
      rw [e1, e2]
    · have e1 : wkP p wc wo N (f + 1 + 1) c = wkP p wc wo N (f + 1) (if p c.toNatClampNeg = true then wc c.toNatClampNeg else wo c.toNatClampNeg) := if_neg q
      have e2 : wkP p wc wo N (f + 1) c = wkP p wc wo N f (if p c.toNatClampNeg = true then wc c.toNatClampNeg else wo c.toNatClampNeg) := if_neg q
      rw [e2] at h
      rw [e1, e2]
      exact wkP_s f _ h
theorem WV.s {p : Nat → Bool} {wc wo : Nat → Int32} {N f : Nat} {g : Int32} {v : Bool} (h : WV p wc wo N f g v) : WV p wc wo N (f + 1) g v := by
  unfold WV at h ⊢
  rw [wkP_s f g (by rw [h]; cases v <;> decide)]
  exact h
theorem WV.le {p : Nat → Bool} {wc wo : Nat → Int32} {N f : Nat} {g : Int32} {v : Bool} (h : WV p wc wo N f g v) : ∀ k, WV p wc wo N (f + k) g v
  | 0 => h
  | k + 1 => (WV.le h k).s
/-- the rows hold the goals at each name -/
def okG (wc wo : Nat → Int32) : List Nat → Nat → Prop
  | [], _ => True
  | k :: r, n => (k = 2 → wc n = (goE r (n + 1)).2.1 (goE r (n + 1)).1 ∧ wo n = (goE r (n + 1)).2.2.1 (goE r (n + 1)).1) ∧ okG wc wo r (if k = 2 then n + 1 else n)
def liE (j : Nat) : EV := List.replicate j (false, true)
theorem liE_s (j : Nat) : liE (j + 1) = (false, true) :: liE j := rfl
theorem walk_all {p : Nat → Bool} {wc wo : Nat → Int32} {N : Nat} (hN : N < 2 ^ 31) : ∀ {r : List Nat} {s d n : Nat}, wfE s d r → d ≤ 4 → okG wc wo r n → n + nmE r ≤ N →
    (∀ j b (T : EV), j + T.length = d → WV p wc wo N (nmE r) ((goE r n).2.2.2 j) (fiE (evE p r n (T ++ (true, b) :: liE j)))) ∧
    (∀ j (T : EV), j + T.length = d → WV p wc wo N (nmE r) ((goE r n).2.2.1 j) (fiE (evE p r n (T ++ (false, false) :: liE j)))) ∧
    (s = 12 → WV p wc wo N (nmE r) ((goE r n).2.1 d) (fiE (evE p r n ((false, true) :: liE d)))) ∧
    (s ≠ 12 → WV p wc wo N (nmE r) (nI n) (fiE (evE p r n ((false, true) :: liE d))))
  | [], s, d, n, h, _, _, _ => by
    obtain ⟨rfl, rfl⟩ := h
    refine ⟨fun j b T hj => ?_, fun j T hj => ?_, fun _ => rfl, fun z => absurd rfl z⟩
    · have e : T = [] := List.eq_nil_of_length_eq_zero (by omega)
      rw [e]
      show (-1 : Int32) = if (true || b) = true then -1 else -2
      rw [Bool.true_or]
      rfl
    · have e : T = [] := List.eq_nil_of_length_eq_zero (by omega)
      rw [e]
      rfl
  | k :: r, s, d, n, h, hd, hok, hn => by
    rcases h with ⟨rfl, ⟨rfl, h⟩ | ⟨rfl, h⟩ | ⟨rfl, h4, h⟩⟩ | ⟨rfl, rfl, h⟩ | ⟨rfl, ⟨rfl | rfl, h⟩ | ⟨rfl, h0, h⟩⟩
    all_goals first
      | (-- a name
        have hn2 : n + 1 + nmE r ≤ N := by
          have : n + (1 + nmE r) ≤ N := hn
          omega
        have hok2 : okG wc wo r (n + 1) := hok.2
        obtain ⟨i1, i2, i3, i4⟩ := walk_all (p := p) hN h hd hok2 hn2
        have hl := goE_l (n := n + 1) h hd
        have e1 : nmE (2 :: r) = nmE r + 1 := Nat.add_comm 1 _
        have stp1 : ∀ v, WV p wc wo N (nmE r) (if p n = true then wc n else wo n) v → WV p wc wo N (nmE r + 1) (nI n) v := fun v hv => by
          unfold WV at hv ⊢
          rw [← hv]
          have : wkP p wc wo N (nmE r + 1) (nI n) = wkP p wc wo N (nmE r) (if p (nI n).toNatClampNeg = true then wc (nI n).toNatClampNeg else wo (nI n).toNatClampNeg) := if_neg (fun z => by
            rcases z with z | z
            · exact nI_pos (by omega) z
            · exact nI_ge (a := n) (b := N) (by omega) hN z)
          rw [this, nI_clamp (by omega)]
        rw [e1]
        refine ⟨fun j b T hj => ?_, fun j T hj => ?_, fun z => absurd z (by decide), fun _ => ?_⟩
        · cases T with
          | nil => exact (i1 j (b && p n) [] hj).s
          | cons x T => exact (i1 j b ((x.1, x.2 && p n) :: T) hj).s
        · cases T with
          | nil => exact (i2 j [] hj).s
          | cons x T => exact (i2 j ((x.1, x.2 && p n) :: T) hj).s
        · refine stp1 _ ?_
          show WV p wc wo N (nmE r) (if p n = true then wc n else wo n) (fiE (evE p r (n + 1) ((false, true && p n) :: liE d)))
          have hg := hok.1 rfl
          rw [hl] at hg
          cases hp : p n with
          | true =>
            rw [if_pos rfl, hg.1]
            exact i3 rfl
          | false =>
            rw [if_neg (by decide), hg.2]
            exact i2 d [] rfl)
      | skip
    · -- not
      have hok2 : okG wc wo r n := hok.2
      have hn2 : n + nmE r ≤ N := by
        have : n + (0 + nmE r) ≤ N := hn
        omega
      obtain ⟨i1, i2, i3, i4⟩ := walk_all (p := p) hN h hd hok2 hn2
      have e1 : nmE (14 :: r) = nmE r := Nat.zero_add _
      rw [e1]
      exact ⟨fun j b T hj => i1 j b T hj, fun j T hj => i2 j T hj, fun z => absurd z (by decide), fun _ => i4 (by decide)⟩
    · -- open
      have hok2 : okG wc wo r n := hok.2
      have hn2 : n + nmE r ≤ N := by
        have : n + (0 + nmE r) ≤ N := hn
        omega
      obtain ⟨i1, i2, i3, i4⟩ := walk_all (p := p) hN h (by omega) hok2 hn2
      have hl := goE_l (n := n) h (by omega)
      have e1 : nmE (17 :: r) = nmE r := Nat.zero_add _
      have eg : goE (17 :: r) n = ((goE r n).1 - 1, (goE r n).2.1, (goE r n).2.2.1, (goE r n).2.2.2) := by
        show gsE 17 n (goE r n) = _
        unfold gsE
        rw [if_neg (by decide), if_neg (by decide), if_neg (fun z => absurd z.1 (by decide)), if_pos ⟨rfl, by omega⟩]
      rw [e1, eg]
      exact ⟨fun j b T hj => i1 j b ((false, true) :: T) (by rw [List.length_cons]; omega), fun j T hj => i2 j ((false, true) :: T) (by rw [List.length_cons]; omega), fun z => absurd z (by decide), fun _ => i4 (by decide)⟩
    · -- and
      have hok2 : okG wc wo r n := hok.2
      have hn2 : n + nmE r ≤ N := by
        have : n + (0 + nmE r) ≤ N := hn
        omega
      obtain ⟨i1, i2, i3, i4⟩ := walk_all (p := p) hN h hd hok2 hn2
      have hl := goE_l (n := n) h hd
      have e1 : nmE (15 :: r) = nmE r := Nat.zero_add _
      have eg : goE (15 :: r) n = ((goE r n).1, upd (goE r n).2.1 (goE r n).1 (nI n), (goE r n).2.2.1, (goE r n).2.2.2) := rfl
      rw [e1, eg]
      refine ⟨fun j b T hj => i1 j b T hj, fun j T hj => i2 j T hj, fun _ => ?_, fun z => absurd rfl z⟩
      show WV p wc wo N (nmE r) (upd (goE r n).2.1 (goE r n).1 (nI n) d) _
      rw [hl, pk_us]
      exact i4 (by decide)
    · -- or
      have hok2 : okG wc wo r n := hok.2
      have hn2 : n + nmE r ≤ N := by
        have : n + (0 + nmE r) ≤ N := hn
        omega
      obtain ⟨i1, i2, i3, i4⟩ := walk_all (p := p) hN h hd hok2 hn2
      have hl := goE_l (n := n) h hd
      have e1 : nmE (16 :: r) = nmE r := Nat.zero_add _
      have eg : goE (16 :: r) n = ((goE r n).1, upd (goE r n).2.1 (goE r n).1 ((goE r n).2.2.2 (goE r n).1), upd (goE r n).2.2.1 (goE r n).1 (nI n), (goE r n).2.2.2) := rfl
      rw [e1, eg]
      refine ⟨fun j b T hj => ?_, fun j T hj => ?_, fun _ => ?_, fun z => absurd rfl z⟩
      · cases T with
        | nil => exact i1 j true [] hj
        | cons x T => exact i1 j b ((x.1 || x.2, true) :: T) hj
      · show WV p wc wo N (nmE r) (upd (goE r n).2.2.1 (goE r n).1 (nI n) j) _
        rw [hl]
        cases T with
        | nil =>
          have e : j = d := hj
          rw [e, pk_us]
          exact i4 (by decide)
        | cons x T =>
          rw [pk_un (by rw [List.length_cons] at hj; omega)]
          exact i2 j ((x.1 || x.2, true) :: T) hj
      · show WV p wc wo N (nmE r) (upd (goE r n).2.1 (goE r n).1 ((goE r n).2.2.2 (goE r n).1) d) _
        rw [hl, pk_us]
        exact i1 d true [] rfl
    · -- close
      obtain ⟨d, rfl⟩ : ∃ e, d = e + 1 := ⟨d - 1, by omega⟩
      rw [Nat.add_sub_cancel] at h
      have hok2 : okG wc wo r n := hok.2
      have hn2 : n + nmE r ≤ N := by
        have : n + (0 + nmE r) ≤ N := hn
        omega
      obtain ⟨i1, i2, i3, i4⟩ := walk_all (p := p) hN h (by omega) hok2 hn2
      have hl := goE_l (n := n) h (by omega)
      have e1 : nmE (18 :: r) = nmE r := Nat.zero_add _
      have eg : goE (18 :: r) n = ((goE r n).1 + 1, upd (goE r n).2.1 ((goE r n).1 + 1) ((goE r n).2.1 (goE r n).1), upd (goE r n).2.2.1 ((goE r n).1 + 1) ((goE r n).2.2.1 (goE r n).1), upd (goE r n).2.2.2 ((goE r n).1 + 1) ((goE r n).2.1 (goE r n).1)) := by
        show gsE 18 n (goE r n) = _
        unfold gsE
        rw [if_neg (by decide), if_neg (by decide), if_pos ⟨rfl, by omega⟩]
      rw [e1, eg, hl]
      refine ⟨fun j b T hj => ?_, fun j T hj => ?_, fun _ => ?_, fun z => absurd rfl z⟩
      · show WV p wc wo N (nmE r) (upd (goE r n).2.2.2 (d + 1) ((goE r n).2.1 d) j) _
        cases T with
        | nil =>
          have e : j = d + 1 := hj
          rw [e, pk_us]
          have := i3 rfl
          show WV p wc wo N (nmE r) _ (fiE (evE p r n ((false, true && (true || b)) :: liE d)))
          rw [Bool.true_or, Bool.true_and]
          exact this
        | cons x T =>
          rw [pk_un (by rw [List.length_cons] at hj; omega)]
          cases T with
          | nil => exact i1 j (b && (x.1 || x.2)) [] (by have : j + 1 = d + 1 := hj; show j + 0 = d; omega)
          | cons y T => exact i1 j b ((y.1, y.2 && (x.1 || x.2)) :: T) (by rw [List.length_cons, List.length_cons] at hj; rw [List.length_cons]; omega)
      · show WV p wc wo N (nmE r) (upd (goE r n).2.2.1 (d + 1) ((goE r n).2.2.1 d) j) _
        cases T with
        | nil =>
          have e : j = d + 1 := hj
          rw [e, pk_us]
          exact i2 d [] rfl
        | cons x T =>
          rw [pk_un (by rw [List.length_cons] at hj; omega)]
          cases T with
          | nil => exact i2 j [] (by have : j + 1 = d + 1 := hj; show j + 0 = d; omega)
          | cons y T => exact i2 j ((y.1, y.2 && (x.1 || x.2)) :: T) (by rw [List.length_cons, List.length_cons] at hj; rw [List.length_cons]; omega)
      · show WV p wc wo N (nmE r) (upd (goE r n).2.1 (d + 1) ((goE r n).2.1 d) (d + 1)) _
        rw [pk_us]
        exact i3 rfl
theorem walk_CT {p : Nat → Bool} {wc wo : Nat → Int32} {N n : Nat} {ks : List Nat} (hN : N < 2 ^ 31) (hw : wfE 10 0 ks) (hok : okG wc wo ks n) (hn : n + nmE ks ≤ N) : ∀ f, nmE ks ≤ f → wkP p wc wo N f (nI n) = if CTk ks n p = true then -1 else -2 := fun f hf => by
  obtain ⟨k, rfl⟩ := Nat.exists_eq_add_of_le hf
  exact (((walk_all (p := p) hN hw (by decide) hok hn).2.2.2 (by decide)).le k)
/-- a circuit asks its own contacts alone -/
theorem evE_congr {p q : Nat → Bool} : ∀ (r : List Nat) (n : Nat) (S : EV), (∀ k, n ≤ k → k < n + nmE r → p k = q k) → evE p r n S = evE q r n S
  | [], _, _, _ => rfl
  | k :: r, n, S, h => by
    have h1 : stE p k n S = stE q k n S := by
      unfold stE
      split
      · next hk => rw [h n (Nat.le_refl n) (by subst hk; show n < n + (1 + nmE r); omega)]
      · rfl
    show evE p r _ (stE p k n S) = evE q r _ (stE q k n S)
    rw [h1]
    refine evE_congr r _ _ (fun j h2 h3 => h j ?_ ?_)
    · split at h2 <;> omega
    · show j < n + ((if k = 2 then 1 else 0) + nmE r)
      split at h3
      · next hk => rw [if_pos hk]; omega
      · next hk => rw [if_neg hk]; omega
theorem CTk_congr {p q : Nat → Bool} {ks : List Nat} {n : Nat} (h : ∀ k, n ≤ k → k < n + nmE ks → p k = q k) : CTk ks n p = CTk ks n q := by
  unfold CTk
  rw [evE_congr ks n _ h]
