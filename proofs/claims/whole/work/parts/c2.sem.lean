/-! what the codes mean: the same as the circuit's row of tokens -/
theorem pfS_app {isL vl : Nat → Bool} : ∀ (a b : List Nat) (st : List Bool), pfS isL vl (a ++ b) st = (pfS isL vl a st).bind (pfS isL vl b)
  | [], _, _ => rfl
  | k :: r, b, st => by
    show (if isL k = true then pfS isL vl (r ++ b) (vl k :: st) else (match st with
      | b' :: a :: t => pfS isL vl (r ++ b) ((if k = 50 then a && b' else a || b') :: t)
      | _ => none)) = (if isL k = true then pfS isL vl r (vl k :: st) else (match st with
      | b' :: a :: t => pfS isL vl r ((if k = 50 then a && b' else a || b') :: t)
      | _ => none)).bind (pfS isL vl b)
    by_cases c : isL k = true
    · rw [if_pos c, if_pos c]
      exact pfS_app r b _
    · rw [if_neg c, if_neg c]
      cases st with
      | nil => rfl
      | cons x st =>
        cases st with
        | nil => rfl
        | cons y st => exact pfS_app r b _
theorem pfS_map {isL vl isM vm : Nat → Bool} {cv : Nat → Nat} : ∀ (a : List Nat) (st : List Bool), (∀ x ∈ a, isM (cv x) = isL x ∧ (isL x = true → vm (cv x) = vl x) ∧ (isL x = false → (cv x = 50 ↔ x = 50))) → pfS isM vm (a.map cv) st = pfS isL vl a st
  | [], _, _ => rfl
  | k :: r, st, h => by
    obtain ⟨h1, h2, h3⟩ := h k (List.mem_cons_self ..)
    have ih := fun st => pfS_map (isL := isL) (vl := vl) (isM := isM) (vm := vm) (cv := cv) r st (fun x hx => h x (List.mem_cons_of_mem _ hx))
    show (if isM (cv k) = true then pfS isM vm (r.map cv) (vm (cv k) :: st) else (match st with
      | b' :: a :: t => pfS isM vm (r.map cv) ((if cv k = 50 then a && b' else a || b') :: t)
      | _ => none)) = (if isL k = true then pfS isL vl r (vl k :: st) else (match st with
      | b' :: a :: t => pfS isL vl r ((if k = 50 then a && b' else a || b') :: t)
      | _ => none))
    rw [h1]
    by_cases c : isL k = true
    · rw [if_pos c, if_pos c, h2 c]
      exact ih _
    · rw [if_neg c, if_neg c]
      have h4 := h3 (Bool.eq_false_iff.mpr c)
      cases st with
      | nil => rfl
      | cons x st =>
        cases st with
        | nil => rfl
        | cons y st =>
          have e : (if cv k = 50 then y && x else y || x) = (if k = 50 then y && x else y || x) := by
            by_cases c5 : k = 50
            · rw [if_pos c5, if_pos (h4.mpr c5)]
            · rw [if_neg c5, if_neg (fun z => c5 (h4.mp z))]
          show pfS isM vm (r.map cv) ((if cv k = 50 then y && x else y || x) :: st) = pfS isL vl r ((if k = 50 then y && x else y || x) :: st)
          rw [e]
          exact ih _
/-- leaves and their values, by tokens -/
def isT (x : Nat) : Bool := decide (1000 ≤ x)
def vlT (pt : Nat → Bool) (x : Nat) : Bool := pt (x - 1000)
/-- how many values wait below -/
def vW : List Nat → Nat
  | [] => 0
  | k :: W => (if k = 6 then 0 else 1) + vW W
def seF (a : Bool) : EV → EV
  | [] => []
  | x :: S => (a, x.2) :: S
def seN (b : Bool) : EV → EV
  | [] => []
  | x :: S => (x.1, b) :: S
/-- what the pile of signs with its values stands for -/
def vS : List Nat → List Bool → EV
  | [], _ => [(false, true)]
  | k :: W, V => if k = 6 then (false, true) :: vS W V else if k = 10 then seF (V.headD false) (vS W V.tail) else seN (V.headD false) (vS W V.tail)
theorem vS_6 (W : List Nat) (V : List Bool) : vS (6 :: W) V = (false, true) :: vS W V := rfl
theorem vS_10 (W : List Nat) (a : Bool) (V : List Bool) : vS (10 :: W) (a :: V) = seF a (vS W V) := rfl
theorem vS_9 (W : List Nat) (b : Bool) (V : List Bool) : vS (9 :: W) (b :: V) = seN b (vS W V) := rfl
theorem vS_lo {W : List Nat} (h : W = [] ∨ W.head? = some 6) (V : List Bool) : ∃ S, vS W V = (false, true) :: S := by
  cases W with
  | nil => exact ⟨[], rfl⟩
  | cons k W =>
    have e : k = 6 := by
      rcases h with z | z
      · cases z
      · injection z
    subst e
    exact ⟨_, rfl⟩
theorem vS_mid {W : List Nat} (hw : wpl W) (h : W = [] ∨ W.head? = some 6 ∨ W.head? = some 10) (V : List Bool) : ∃ a S, vS W V = (a, true) :: S := by
  cases W with
  | nil => exact ⟨_, [], rfl⟩
  | cons k W =>
    rcases h with z | z | z
    · cases z
    · injection z with z
      subst z
      exact ⟨_, _, rfl⟩
    · injection z with z
      subst z
      obtain ⟨h1, h2⟩ := hw
      have h3 : W = [] ∨ W.head? = some 6 := by
        rcases h1 with y | y | y
        · cases y
        · exact y.2
        · exact absurd y.1 (by decide)
      obtain ⟨S, e⟩ := vS_lo h3 V.tail
      refine ⟨V.headD false, S, ?_⟩
      show seF (V.headD false) (vS W V.tail) = _
      rw [e]
      rfl
theorem vS_ne : ∀ (W : List Nat) (V : List Bool), vS W V ≠ []
  | [], _ => fun e => by cases e
  | k :: W, V => fun e => by
    have e : (if k = 6 then (false, true) :: vS W V else if k = 10 then seF (V.headD false) (vS W V.tail) else seN (V.headD false) (vS W V.tail)) = [] := e
    split at e
    · cases e
    · have h := vS_ne W V.tail
      split at e
      · cases hS : vS W V.tail with
        | nil => exact h hS
        | cons x S => rw [hS] at e; cases e
      · cases hS : vS W V.tail with
        | nil => exact h hS
        | cons x S => rw [hS] at e; cases e
/-- AND is written out -/
theorem gs1_v {pt : Nat → Bool} {W : List Nat} {V : List Bool} {v : Bool} (hw : wpl W) (hV : V.length = vW W) : ∃ w V2, pfS isT (vlT pt) (gs1 W).2 (v :: V) = some (w :: V2) ∧ V2.length = vW (gs1 W).1 ∧ ∃ a S, vS (gs1 W).1 V2 = (a, true) :: S ∧ unE v (vS W V) = (a, w) :: S := by
  obtain ⟨g1, g2, g3, g4⟩ := gs1_w hw
  cases W with
  | nil =>
    refine ⟨v, V, rfl, hV, false, [], rfl, ?_⟩
    show [(false, true && v)] = _
    rw [Bool.true_and]
  | cons k W =>
    by_cases k9 : k = 9
    · subst k9
      have e1 : gs1 (9 :: W) = (W, [50]) := rfl
      rw [e1] at g1 g4 ⊢
      have hV : V.length = 1 + vW W := hV
      cases V with
      | nil => exact absurd hV (by show ¬ (0 : Nat) = 1 + vW W; omega)
      | cons b V =>
        have hV : V.length + 1 = 1 + vW W := hV
        obtain ⟨a, S, e⟩ := vS_mid g1 g4 V
        refine ⟨b && v, V, rfl, by show V.length = vW W; omega, a, S, e, ?_⟩
        rw [vS_9, e]
        rfl
    · have e1 : gs1 (k :: W) = (k :: W, []) := if_neg k9
      rw [e1] at g1 g4 ⊢
      obtain ⟨a, S, e⟩ := vS_mid g1 g4 V
      refine ⟨v, V, rfl, hV, a, S, e, ?_⟩
      rw [e]
      show (a, true && v) :: S = _
      rw [Bool.true_and]
/-- OR is written out, too -/
theorem gsA4_v {pt : Nat → Bool} {W : List Nat} {V : List Bool} {v : Bool} (hw : wpl W) (hV : V.length = vW W) : ∃ w V2, pfS isT (vlT pt) (gsA 4 W).2 (v :: V) = some (w :: V2) ∧ V2.length = vW (gsA 4 W).1 ∧ ∃ a b S, vS (gsA 4 W).1 V2 = (false, true) :: S ∧ unE v (vS W V) = (a, b) :: S ∧ (a || b) = w := by
  obtain ⟨g1, g2, g3, g4⟩ := gs1_w hw
  obtain ⟨w1, V1, p1, l1, a, S, s1, u1⟩ := gs1_v (pt := pt) (v := v) hw hV
  have e0 : gsA 4 W = ((gs2 4 (gs1 W).1).1, (gs1 W).2 ++ (gs2 4 (gs1 W).1).2) := rfl
  rw [e0]
  show ∃ w V2, pfS isT (vlT pt) ((gs1 W).2 ++ (gs2 4 (gs1 W).1).2) (v :: V) = some (w :: V2) ∧ V2.length = vW (gs2 4 (gs1 W).1).1 ∧ ∃ a b S, vS (gs2 4 (gs1 W).1).1 V2 = (false, true) :: S ∧ unE v (vS W V) = (a, b) :: S ∧ (a || b) = w
  rw [pfS_app, p1]
  show ∃ w V2, pfS isT (vlT pt) (gs2 4 (gs1 W).1).2 (w1 :: V1) = some (w :: V2) ∧ V2.length = vW (gs2 4 (gs1 W).1).1 ∧ ∃ a b S, vS (gs2 4 (gs1 W).1).1 V2 = (false, true) :: S ∧ unE v (vS W V) = (a, b) :: S ∧ (a || b) = w
  cases hW : (gs1 W).1 with
  | nil =>
    rw [hW] at s1 l1
    have s1 : [(false, true)] = (a, true) :: S := s1
    injection s1 with s2 s3
    injection s2 with s4 _
    subst s4
    exact ⟨w1, V1, rfl, l1, false, w1, S, by rw [← s3]; rfl, u1, Bool.false_or _⟩
  | cons k W1 =>
    rw [hW] at s1 l1 g1 g4
    have e2 : gs2 4 (k :: W1) = if 4 ≠ 9 ∧ k = 10 then (W1, [51]) else (k :: W1, []) := rfl
    rw [e2]
    by_cases k10 : k = 10
    · subst k10
      rw [if_pos ⟨by decide, rfl⟩]
      have l1 : V1.length = 1 + vW W1 := l1
      have h3 : W1 = [] ∨ W1.head? = some 6 := by
        rcases g1.1 with y | y | y
        · cases y
        · exact y.2
        · exact absurd y.1 (by decide)
      cases V1 with
      | nil => exact absurd l1 (by show ¬ (0 : Nat) = 1 + vW W1; omega)
      | cons b V1 =>
        have l1 : V1.length + 1 = 1 + vW W1 := l1
        obtain ⟨S2, e⟩ := vS_lo h3 V1
        rw [vS_10, e] at s1
        have s1 : (b, true) :: S2 = (a, true) :: S := s1
        injection s1 with s2 s3
        injection s2 with s4 _
        subst s4
        subst s3
        exact ⟨b || w1, V1, rfl, by show V1.length = vW W1; omega, b, w1, S2, e, u1, rfl⟩
    · rw [if_neg (fun z => k10 z.2)]
      have k6 : k = 6 := by
        rcases g4 with z | z | z
        · cases z
        · injection z
        · injection z with z
          exact absurd z k10
      subst k6
      rw [vS_6] at s1
      injection s1 with s2 s3
      injection s2 with s4 _
      subst s4
      exact ⟨w1, V1, rfl, l1, false, w1, S, by rw [← s3]; rfl, u1, Bool.false_or _⟩
theorem gsA9_v {pt : Nat → Bool} {W : List Nat} {V : List Bool} {v : Bool} (hw : wpl W) (hV : V.length = vW W) : ∃ w V2, pfS isT (vlT pt) (gsA 9 W).2 (v :: V) = some (w :: V2) ∧ V2.length = vW (gsA 9 W).1 ∧ vS (9 :: (gsA 9 W).1) (w :: V2) = unE v (vS W V) := by
  obtain ⟨w1, V1, p1, l1, a, S, s1, u1⟩ := gs1_v (pt := pt) (v := v) hw hV
  have e2 : gs2 9 (gs1 W).1 = ((gs1 W).1, []) := by
    cases (gs1 W).1 with
    | nil => rfl
    | cons k W3 =>
      show (if 9 ≠ 9 ∧ k = 10 then (W3, [51]) else (k :: W3, [])) = _
      rw [if_neg (fun z => z.1 rfl)]
  have e0 : gsA 9 W = gs1 W := by
    show ((gs2 9 (gs1 W).1).1, (gs1 W).2 ++ (gs2 9 (gs1 W).1).2) = gs1 W
    rw [e2, List.append_nil]
  rw [e0]
  refine ⟨w1, V1, p1, l1, ?_⟩
  rw [vS_9, s1, u1]
  rfl
/-- the circuit's tokens a .. a + m, by their tokens' values -/
def evT (kd : Nat → Nat) (pt : Nat → Bool) (a : Nat) (S : EV) : Nat → EV
  | 0 => S
  | m + 1 => stE (fun _ => pt (a + m)) (kd (a + m)) 0 (evT kd pt a S m)
theorem evE_app {p : Nat → Bool} {k : Nat} : ∀ (r : List Nat) (n : Nat) (S : EV), evE p (r ++ [k]) n S = stE p k (n + nmE r) (evE p r n S)
  | [], n, S => rfl
  | x :: r, n, S => by
    have e : nmE (x :: r) = (if x = 2 then 1 else 0) + nmE r := rfl
    show evE p (r ++ [k]) (if x = 2 then n + 1 else n) (stE p x n S) = stE p k (n + nmE (x :: r)) (evE p r (if x = 2 then n + 1 else n) (stE p x n S))
    rw [evE_app r, e]
    by_cases c : x = 2
    · rw [if_pos c, if_pos c, show n + 1 + nmE r = n + (1 + nmE r) by omega]
    · rw [if_neg c, if_neg c, Nat.zero_add]
theorem evT_E {kd : Nat → Nat} {pt p : Nat → Bool} {a n : Nat} {S : EV} : ∀ {m : Nat}, (∀ i, i < m → kd (a + i) = 2 → p (n + nmE (sqL kd a i)) = pt (a + i)) → evE p (sqL kd a m) n S = evT kd pt a S m
  | 0, _ => rfl
  | m + 1, h => by
    rw [sqL_app, evE_app, evT_E (m := m) (fun i hi => h i (by omega))]
    show stE p (kd (a + m)) _ _ = stE (fun _ => pt (a + m)) (kd (a + m)) 0 _
    unfold stE
    by_cases c : kd (a + m) = 2
    · rw [if_pos c, if_pos c, h m (Nat.lt_succ_self m) c]
    · rw [if_neg c, if_neg c]
/-- the codes written since token a, with the values of the names, stand for the circuit so far -/
def SEM (kd : Nat → Nat) (pt : Nat → Bool) (a m : Nat) : Prop := ∃ L, (cG kd (a + m)).2 = (cG kd a).2 ++ L ∧ ((zS (zz kd (a + m)) ≠ 12 → ∃ V, pfS isT (vlT pt) L [] = some V ∧ V.length = vW (cG kd (a + m)).1 ∧ vS (cG kd (a + m)).1 V = evT kd pt a [(false, true)] m) ∧ (zS (zz kd (a + m)) = 12 → ∃ v V, pfS isT (vlT pt) L [] = some (v :: V) ∧ V.length = vW (cG kd (a + m)).1 ∧ unE v (vS (cG kd (a + m)).1 V) = evT kd pt a [(false, true)] m))
theorem sem_c {kd : Nat → Nat} (hkd : ∀ i, kd i < 19) {pt : Nat → Bool} {N a : Nat} (hok : ∀ j, j < N → zok kd j) (hs : zS (zz kd a) = 10) (hW : (cG kd a).1 = []) : ∀ {m : Nat}, a + m ≤ N → inC kd a (a + m) → SEM kd pt a m := fun {m} hm hi => by
  induction m with
  | zero =>
    refine ⟨[], (List.append_nil _).symm, fun _ => ⟨[], rfl, ?_, ?_⟩, fun e => ?_⟩
    · show 0 = vW (cG kd a).1
      rw [hW]; rfl
    · show vS (cG kd a).1 [] = [(false, true)]
      rw [hW]; rfl
    · have e : zS (zz kd a) = 12 := e
      omega
  | succ m ih =>
    obtain ⟨L, e1, e2, e3⟩ := ih (by omega) (fun q h1 h2 => hi q h1 (by omega))
    obtain ⟨h10, h12⟩ := hi (a + m) (by omega) (by omega)
    obtain ⟨s, hb, hs13, hz, ho⟩ := zst hkd hok (show a + m < N by omega)
    obtain ⟨i1, i2, i3, i4⟩ := cG_w hkd (t := a + m) (fun j hj => hok j (by omega))
    have hc := zfr hs13 h10 hb
    have eS : zS (zz kd (a + m + 1)) = s := by rw [hz, zA_S]
    have eT : evT kd pt a [(false, true)] (m + 1) = stE (fun _ => pt (a + m)) (kd (a + m)) 0 (evT kd pt a [(false, true)] m) := rfl
    show ∃ L, (cG kd (a + m + 1)).2 = _ ++ L ∧ ((zS (zz kd (a + m + 1)) ≠ 12 → ∃ V, pfS isT (vlT pt) L [] = some V ∧ V.length = vW (cG kd (a + m + 1)).1 ∧ vS (cG kd (a + m + 1)).1 V = evT kd pt a [(false, true)] (m + 1)) ∧ (zS (zz kd (a + m + 1)) = 12 → ∃ v V, pfS isT (vlT pt) L [] = some (v :: V) ∧ V.length = vW (cG kd (a + m + 1)).1 ∧ unE v (vS (cG kd (a + m + 1)).1 V) = evT kd pt a [(false, true)] (m + 1)))
    rw [eS, eT]
    rcases hc with ⟨q1, k2, rfl⟩ | ⟨q1, k14, rfl⟩ | ⟨q1, k17, rfl⟩ | ⟨q1, k56, rfl⟩ | ⟨q1, k18, hd, rfl⟩ | ⟨_, z, _⟩
    · -- a name
      obtain ⟨V, v1, v2, v3⟩ := e2 (by omega)
      rw [cG_2 h10 k2, k2]
      refine ⟨L ++ [1000 + (a + m)], ?_, fun z => absurd rfl z, fun _ => ⟨pt (a + m), V, ?_, v2, ?_⟩⟩
      · show (cG kd (a + m)).2 ++ [1000 + (a + m)] = _
        rw [e1, List.append_assoc]
      · rw [pfS_app, v1]
        show (if isT (1000 + (a + m)) = true then some (vlT pt (1000 + (a + m)) :: V) else _) = _
        rw [if_pos (show isT (1000 + (a + m)) = true from decide_eq_true (by omega))]
        unfold vlT
        rw [Nat.add_sub_cancel_left]
      · show unE (pt (a + m)) (vS (cG kd (a + m)).1 V) = unE (pt (a + m)) (evT kd pt a [(false, true)] m)
        rw [v3]
    · -- not
      obtain ⟨V, v1, v2, v3⟩ := e2 (by omega)
      rw [cG_14 h10 k14, k14]
      exact ⟨L, e1, fun _ => ⟨V, v1, v2, v3⟩, fun z => absurd z (by decide)⟩
    · -- open
      obtain ⟨V, v1, v2, v3⟩ := e2 (by omega)
      rw [cG_17 h10 k17, k17]
      refine ⟨L, e1, fun _ => ⟨V, v1, ?_, ?_⟩, fun z => absurd z (by decide)⟩
      · show V.length = 0 + vW (cG kd (a + m)).1
        omega
      · show (false, true) :: vS (cG kd (a + m)).1 V = (false, true) :: evT kd pt a [(false, true)] m
        rw [v3]
    · -- and, or
      obtain ⟨v, V, v1, v2, v3⟩ := e3 q1
      rcases k56 with k | k
      · rw [cG_15 h10 k, k]
        obtain ⟨w, V2, p1, p2, p3⟩ := gsA9_v (pt := pt) (v := v) i1 v2
        refine ⟨L ++ (gsA 9 (cG kd (a + m)).1).2, ?_, fun _ => ⟨w :: V2, ?_, ?_, ?_⟩, fun z => absurd z (by decide)⟩
        · show (cG kd (a + m)).2 ++ (gsA 9 (cG kd (a + m)).1).2 = _
          rw [e1, List.append_assoc]
        · rw [pfS_app, v1]
          exact p1
        · show V2.length + 1 = 1 + vW (gsA 9 (cG kd (a + m)).1).1
          omega
        · show vS (9 :: (gsA 9 (cG kd (a + m)).1).1) (w :: V2) = evT kd pt a [(false, true)] m
          rw [p3, v3]
      · rw [cG_16 h10 k, k]
        obtain ⟨w, V2, p1, p2, x, y, S, p3, p4, p5⟩ := gsA4_v (pt := pt) (v := v) i1 v2
        refine ⟨L ++ (gsA 4 (cG kd (a + m)).1).2, ?_, fun _ => ⟨w :: V2, ?_, ?_, ?_⟩, fun z => absurd z (by decide)⟩
        · show (cG kd (a + m)).2 ++ (gsA 4 (cG kd (a + m)).1).2 = _
          rw [e1, List.append_assoc]
        · rw [pfS_app, v1]
          exact p1
        · show V2.length + 1 = 1 + vW (gsA 4 (cG kd (a + m)).1).1
          omega
        · show vS (10 :: (gsA 4 (cG kd (a + m)).1).1) (w :: V2) = orE (evT kd pt a [(false, true)] m)
          rw [vS_10, p3, ← v3, p4, ← p5]
          rfl
    · -- close
      obtain ⟨v, V, v1, v2, v3⟩ := e3 q1
      rw [cG_18 h10 k18, k18]
      obtain ⟨w, V2, p1, p2, x, y, S, p3, p4, p5⟩ := gsA4_v (pt := pt) (v := v) i1 v2
      obtain ⟨w1, w2, w3, w4⟩ := gsA_w (q := 4) i1
      cases hW4 : (gsA 4 (cG kd (a + m)).1).1 with
      | nil =>
        exfalso
        rw [hW4] at w2
        have : opC [] = 0 := rfl
        omega
      | cons k W =>
        rw [hW4] at p2 p3 w4
        have k6 : k = 6 := by
          rcases w4 with z | z | z
          · cases z
          · injection z
          · exact absurd z.1 (by decide)
        subst k6
        rw [vS_6] at p3
        injection p3 with _ p3
        refine ⟨L ++ (gsA 4 (cG kd (a + m)).1).2, ?_, fun z => absurd rfl z, fun _ => ⟨w, V2, ?_, ?_, ?_⟩⟩
        · show (cG kd (a + m)).2 ++ (gsA 4 (cG kd (a + m)).1).2 = _
          rw [e1, List.append_assoc]
        · rw [pfS_app, v1]
          exact p1
        · have p2 : V2.length = 0 + vW W := p2
          show V2.length = vW W
          omega
        · show unE w (vS W V2) = poE (evT kd pt a [(false, true)] m)
          rw [← v3, p4, ← p3, ← p5]
          cases hS : vS W V2 with
          | nil => exact absurd hS (vS_ne W V2)
          | cons z T => rfl
    · exact absurd z h12
/-- a whole circuit, a ; behind it: its codes answer what the row of tokens means -/
theorem sem_end {kd : Nat → Nat} (hkd : ∀ i, kd i < 19) {pt p : Nat → Bool} {N a m n : Nat} (hok : ∀ j, j < N → zok kd j) (hs : zS (zz kd a) = 10) (hW : (cG kd a).1 = []) (hm : a + m < N) (hi : inC kd a (a + m)) (h12 : kd (a + m) = 12) (h10 : 10 ≤ zS (zz kd (a + m))) (hp : ∀ i, i < m → kd (a + i) = 2 → p (n + nmE (sqL kd a i)) = pt (a + i)) : ∃ L, (cG kd (a + m + 1)).2 = (cG kd a).2 ++ L ∧ pfS isT (vlT pt) L [] = some [CTk (sqL kd a m) n p] := by
  obtain ⟨L, e1, e2, e3⟩ := sem_c hkd (pt := pt) hok hs hW (by omega) hi
  obtain ⟨s, hb, hs13, hz, ho⟩ := zst hkd hok hm
  obtain ⟨i1, i2, i3, i4⟩ := cG_w hkd (t := a + m) (fun j hj => hok j (by omega))
  have hc := zfr hs13 h10 hb
  obtain ⟨v, V, v1, v2, v3⟩ := e3 (by omega)
  obtain ⟨w, V2, p1, p2, x, y, S, p3, p4, p5⟩ := gsA4_v (pt := pt) (v := v) i1 v2
  have e0 : (gsA 4 (cG kd (a + m)).1).1 = [] := by
    have := (cG_w hkd (t := a + m + 1) (fun j hj => hok j (by omega))).2.2.1 (by rw [hz, zA_S]; omega)
    rw [cG_12 h10 h12] at this
    exact this
  rw [e0] at p2
  have V0 : V2 = [] := List.eq_nil_of_length_eq_zero p2
  subst V0
  refine ⟨L ++ (gsA 4 (cG kd (a + m)).1).2, ?_, ?_⟩
  · rw [cG_12 h10 h12]
    show (cG kd (a + m)).2 ++ (gsA 4 (cG kd (a + m)).1).2 = _
    rw [e1, List.append_assoc]
  · rw [pfS_app, v1]
    show pfS isT (vlT pt) (gsA 4 (cG kd (a + m)).1).2 (v :: V) = _
    rw [p1]
    unfold CTk
    rw [evT_E hp, ← v3, p4]
    show some [w] = some [x || y]
    rw [p5]
