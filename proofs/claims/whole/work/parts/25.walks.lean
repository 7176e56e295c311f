/-! walks through a drawing's wiring -/
theorem cmp_eq {x y : Int64} : lg_cmp x y = 0 ↔ x = y := by
  unfold lg_cmp
  constructor
  · intro h
    split at h
    · exact absurd h (by decide)
    · split at h
      · assumption
      · exact absurd h (by decide)
  · intro h
    subst h
    rw [if_neg Int64.lt_irrefl, if_pos rfl]
/-- so many steps of a walk from contact c with the set z of closed contacts -/
def wk (wc wo : Nat → Int32) (z : Int64) (N : Nat) : Nat → Int32 → Int32
  | 0, c => c
  | f + 1, c => if c < 0 ∨ nI N ≤ c then c else wk wc wo z N f (if bl z c.toNatClampNeg = true then wc c.toNatClampNeg else wo c.toNatClampNeg)
/-- the set of those below n -/
def bsum (P : Nat → Bool) : Nat → Nat
  | 0 => 0
  | n + 1 => bsum P n ||| (if P n = true then 2 ^ n else 0)
theorem bsum_tb (P : Nat → Bool) : ∀ n i, (bsum P n).testBit i = (decide (i < n) && P i)
  | 0, i => by rw [show bsum P 0 = 0 from rfl, Nat.zero_testBit, decide_eq_false (Nat.not_lt_zero i)]; rfl
  | n + 1, i => by
    rw [show bsum P (n + 1) = bsum P n ||| (if P n = true then 2 ^ n else 0) from rfl, Nat.testBit_or, bsum_tb P n i]
    have h : (if P n = true then 2 ^ n else 0).testBit i = (decide (i = n) && P n) := by
      cases hp : P n
      · simp
      · simp [Nat.testBit_two_pow, eq_comm]
    rw [h]
    rcases Nat.lt_trichotomy i n with h1 | h1 | h1
    · rw [decide_eq_true h1, decide_eq_true (by omega : i < n + 1), decide_eq_false (by omega : ¬ i = n)]; simp
    · subst h1; rw [decide_eq_false (Nat.lt_irrefl i), decide_eq_true (Nat.lt_succ_self i)]; simp
    · rw [decide_eq_false (by omega : ¬ i < n), decide_eq_false (by omega : ¬ i < n + 1), decide_eq_false (by omega : ¬ i = n)]; rfl
theorem bsum_lt (P : Nat → Bool) (n : Nat) : bsum P n < 2 ^ n := by
  apply Nat.lt_pow_two_of_testBit
  intro i hi
  rw [bsum_tb, decide_eq_false (by omega)]
  rfl
theorem bsum_congr {P Q : Nat → Bool} : ∀ {n : Nat}, (∀ i, i < n → P i = Q i) → bsum P n = bsum Q n
  | 0, _ => rfl
  | n + 1, h => by
    show bsum P n ||| _ = bsum Q n ||| _
    rw [bsum_congr (fun i hi => h i (Nat.lt_succ_of_lt hi)), h n (Nat.lt_succ_self n)]
set_option maxHeartbeats 2000000 in
theorem c_circuitsWith {l : Launch} {G : GG} {h : AH} {nx : Nat} {Post : Option Value → AH → Nat → Prop} {w q9 q4 q5 N wh : Nat} {z : Int64} {g9 wc wo : Nat → Int32} {fs : List Value} (hX : XC G ∧ TX l G) (hw : h w = some (.inr (10, fs))) (f0 : fs[0]? = some (.int (nI N))) (f4 : fs[4]? = some (.ref q4)) (f5 : fs[5]? = some (.ref q5)) (f9 : fs[9]? = some (.ref q9)) (h9 : h q9 = some (.inl (0, 11, .inl g9))) (h4 : h q4 = some (.inl (0, N, .inl wc))) (h5 : h q5 = some (.inl (0, N, .inl wo))) (hN : N ≤ 64) (hwh : wh < 2 ^ 31) (hP : Post (some (.int (nI (bsum (fun c => wh.testBit c && decide (wk wc wo z N N (g9 c) = -1)) 11)))) h nx) : Runs l G i_X10_circuitsWith 0 0 [.ref w, .int (nI wh), .long z] h nx Post := by
  have inner : ∀ (f i : Nat) (c j b : Int32), i + f = N → Go l G 10 s_X10_circuitsWith 0 0 Post 98 [(6, .int (wk wc wo z N f c)), (5, .int (j)), (4, .int (b)), (0, .ref w), (1, .int (nI wh)), (2, .long z)] [] h nx 0 0 → Go l G 10 s_X10_circuitsWith 0 0 Post 39 [(7, .int (nI i)), (6, .int c), (5, .int (j)), (4, .int (b)), (0, .ref w), (1, .int (nI wh)), (2, .long z)] [] h nx 0 0 := by
    intro f
    induction f with
    | zero =>
      intro i c j b hi hk
      refine Go.of hX.2 ck_X10_circuitsWith [39, 98] 20 ?_
      refine Exists.intro _ (And.intro hw (Exists.intro _ (And.intro f0 ?_)))
      refine And.intro (fun _ => ?_) (fun c1 => absurd (nI_le (by omega) (by omega)) c1)
      exact go_loc (lv' := [(6, .int c), (5, .int (j)), (4, .int (b)), (0, .ref w), (1, .int (nI wh)), (2, .long z)]) ⟨rfl, rfl, rfl, rfl, rfl, rfl, trivial⟩ hk
    | succ f ih =>
      intro i c j b hi hk
      refine Go.of hX.2 ck_X10_circuitsWith [39, 98] 60 ?_
      refine Exists.intro _ (And.intro hw (Exists.intro _ (And.intro f0 ?_)))
      refine And.intro (fun c1 => absurd c1 (nI_ge (by omega) (by omega))) (fun _ => ?_)
      refine And.intro (fun c1 => ?_) (fun c1 => ?_)
      · rw [show wk wc wo z N (f + 1) c = c from if_pos (Or.inl c1)] at hk
        exact go_loc (lv' := [(6, .int c), (5, .int (j)), (4, .int (b)), (0, .ref w), (1, .int (nI wh)), (2, .long z)]) ⟨rfl, rfl, rfl, rfl, rfl, rfl, trivial⟩ hk
      · refine Exists.intro _ (And.intro hw (Exists.intro _ (And.intro f0 ?_)))
        refine And.intro (fun c2 => ?_) (fun c2 => ?_)
        · rw [show wk wc wo z N (f + 1) c = c from if_pos (Or.inr c2)] at hk
          exact go_loc (lv' := [(6, .int c), (5, .int (j)), (4, .int (b)), (0, .ref w), (1, .int (nI wh)), (2, .long z)]) ⟨rfl, rfl, rfl, rfl, rfl, rfl, trivial⟩ hk
        · obtain ⟨t, ht, rfl⟩ := nI_of c1
          have htN : t < N := (nI_ltI ht (by omega)).mp (Int32.not_le.mp c2)
          have e1 : wk wc wo z N (f + 1) (nI t) = wk wc wo z N f (if bl z t = true then wc t else wo t) := by
            show (if nI t < 0 ∨ nI N ≤ nI t then nI t else _) = _
            rw [if_neg (fun zz => zz.elim c1 c2), nI_clamp (by omega)]
          rw [e1] at hk
          refine And.intro (fun c3 => ?_) (fun c3 => ?_)
          · have hb : bl z t = false := (bl_test z t (by omega)).mp (cmp_eq.mp c3)
            rw [hb] at hk
            refine Exists.intro _ (And.intro hw (Exists.intro _ (And.intro f5 ?_)))
            refine Exists.intro _ (Exists.intro _ (And.intro h5 (And.intro (vp_in_nI (by omega) (by omega)) ?_)))
            rw [nI_clamp (by omega)]
            refine go_loc (lv' := [(7, .int (nI i + 1)), (6, .int (wo t)), (5, .int (j)), (4, .int (b)), (0, .ref w), (1, .int (nI wh)), (2, .long z)]) ⟨rfl, rfl, rfl, rfl, rfl, rfl, rfl, trivial⟩ ?_
            rw [← nI_succ]
            exact ih (i + 1) (wo t) j b (by omega) hk
          · have hb : bl z t = true := by
              cases hh : bl z t
              · exact absurd (cmp_eq.mpr ((bl_test z t (by omega)).mpr hh)) c3
              · rfl
            rw [hb] at hk
            refine Exists.intro _ (And.intro hw (Exists.intro _ (And.intro f4 ?_)))
            refine Exists.intro _ (Exists.intro _ (And.intro h4 (And.intro (vp_in_nI (by omega) (by omega)) ?_)))
            rw [nI_clamp (by omega)]
            refine go_loc (lv' := [(7, .int (nI i + 1)), (6, .int (wc t)), (5, .int (j)), (4, .int (b)), (0, .ref w), (1, .int (nI wh)), (2, .long z)]) ⟨rfl, rfl, rfl, rfl, rfl, rfl, rfl, trivial⟩ ?_
            rw [← nI_succ]
            exact ih (i + 1) (wc t) j b (by omega) hk
  have tail : ∀ (j : Nat) (c : Int32) (b : Nat), j < 11 → Go l G 10 s_X10_circuitsWith 0 0 Post 6 [(5, .int (nI (j + 1))), (4, .int (nI (b ||| (if c = -1 then 2 ^ j else 0)))), (0, .ref w), (1, .int (nI wh)), (2, .long z)] [] h nx 0 0 → Go l G 10 s_X10_circuitsWith 0 0 Post 98 [(6, .int c), (5, .int (nI j)), (4, .int (nI b)), (0, .ref w), (1, .int (nI wh)), (2, .long z)] [] h nx 0 0 := by
    intro j c b hj hk
    refine Go.of hX.2 ck_X10_circuitsWith [6] 40 ?_
    refine And.intro (fun c1 => ?_) (fun c1 => ?_)
    · rw [if_neg c1, ← nx_or, nI_succ] at hk
      exact go_loc (lv' := [(5, .int (nI j + 1)), (4, .int (nI b ||| nI 0)), (0, .ref w), (1, .int (nI wh)), (2, .long z)]) ⟨rfl, rfl, rfl, rfl, rfl, trivial⟩ hk
    · rw [if_pos c1, ← nx_or, ← nx_pow (by omega), nI_succ] at hk
      exact go_loc (lv' := [(5, .int (nI j + 1)), (4, .int (nI b ||| ((1 : Int32) <<< (nI j &&& 31)))), (0, .ref w), (1, .int (nI wh)), (2, .long z)]) ⟨rfl, rfl, rfl, rfl, rfl, trivial⟩ hk
  have loop : ∀ (k j : Nat), j + k = 11 → Go l G 10 s_X10_circuitsWith 0 0 Post 6 [(5, .int (nI j)), (4, .int (nI (bsum (fun c => wh.testBit c && decide (wk wc wo z N N (g9 c) = -1)) j))), (0, .ref w), (1, .int (nI wh)), (2, .long z)] [] h nx 0 0 := by
    intro k
    induction k with
    | zero =>
      intro j hj
      obtain rfl : j = 11 := by omega
      refine Go.of hX.2 ck_X10_circuitsWith [6] 20 ?_
      refine And.intro (fun _ => ?_) (fun cz => absurd (by decide) cz)
      exact And.intro rfl hP
    | succ k ih =>
      intro j hj
      have hs := ih (j + 1) (by omega)
      refine Go.of hX.2 ck_X10_circuitsWith [6, 39] 60 ?_
      refine And.intro (fun c1 => absurd c1 (nI_ge (b := 11) (by omega) (by decide))) (fun _ => ?_)
      refine And.intro (fun c1 => ?_) (fun c1 => ?_)
      · have hb := (nx_tb0 hwh (by omega)).mp c1
        refine go_loc (lv' := [(7, .int (nI 0)), (6, .int (-2)), (5, .int (nI j)), (4, .int (nI (bsum (fun c => wh.testBit c && decide (wk wc wo z N N (g9 c) = -1)) j))), (0, .ref w), (1, .int (nI wh)), (2, .long z)]) ⟨rfl, rfl, rfl, rfl, rfl, rfl, rfl, trivial⟩ (inner N 0 (-2) _ _ (Nat.zero_add _) ?_)
        have e2 : wk wc wo z N N (-2) = -2 := by
          cases N
          · rfl
          · exact if_pos (Or.inl (by decide))
        rw [e2]
        refine tail j (-2) _ (by omega) ?_
        have e3 : bsum (fun c => wh.testBit c && decide (wk wc wo z N N (g9 c) = -1)) (j + 1) = bsum (fun c => wh.testBit c && decide (wk wc wo z N N (g9 c) = -1)) j ||| (if (-2 : Int32) = -1 then 2 ^ j else 0) := by
          show bsum _ j ||| (if (wh.testBit j && _) = true then 2 ^ j else 0) = _
          rw [hb, Bool.false_and, if_neg (by decide), if_neg (by decide)]
        rw [e3] at hs
        exact hs
      · have hb : wh.testBit j = true := by
          cases hh : wh.testBit j
          · exact absurd ((nx_tb0 hwh (by omega)).mpr hh) c1
          · rfl
        refine Exists.intro _ (And.intro hw (Exists.intro _ (And.intro f9 ?_)))
        refine Exists.intro _ (Exists.intro _ (And.intro h9 (And.intro (vp_in_nI (by omega) (by decide)) ?_)))
        rw [nI_clamp (by omega)]
        refine go_loc (lv' := [(7, .int (nI 0)), (6, .int (g9 j)), (5, .int (nI j)), (4, .int (nI (bsum (fun c => wh.testBit c && decide (wk wc wo z N N (g9 c) = -1)) j))), (0, .ref w), (1, .int (nI wh)), (2, .long z)]) ⟨rfl, rfl, rfl, rfl, rfl, rfl, rfl, trivial⟩ (inner N 0 (g9 j) _ _ (Nat.zero_add _) ?_)
        refine tail j _ _ (by omega) ?_
        have e3 : bsum (fun c => wh.testBit c && decide (wk wc wo z N N (g9 c) = -1)) (j + 1) = bsum (fun c => wh.testBit c && decide (wk wc wo z N N (g9 c) = -1)) j ||| (if wk wc wo z N N (g9 j) = -1 then 2 ^ j else 0) := by
          show bsum _ j ||| (if (wh.testBit j && decide (wk wc wo z N N (g9 j) = -1)) = true then 2 ^ j else 0) = _
          rw [hb, Bool.true_and]
          by_cases e : wk wc wo z N N (g9 j) = -1
          · rw [if_pos e, decide_eq_true e, if_pos rfl]
          · rw [if_neg e, decide_eq_false e, if_neg (by decide)]
        rw [e3] at hs
        exact hs
  refine en_X10_circuitsWith hX [6] 20 rfl ?_
  exact go_loc (lv' := [(5, .int (nI 0)), (4, .int (nI 0)), (0, .ref w), (1, .int (nI wh)), (2, .long z)]) ⟨rfl, rfl, rfl, rfl, rfl, trivial⟩ (loop 11 0 rfl)
