/-! x's search: leaving a state, taking the next one -/
section WAY2
variable {nx : Nat → Nat} {nR B up0 : Nat} {m0 m : Nat → Int32} {wy lf : Nat → Nat} {en : Nat → Int32}
theorem jL_lt {e f : Int32} {l n : Nat} (h : l < 2 ^ n) : jL e f l < 2 ^ n := by
  unfold jL
  split
  · exact h
  · exact Nat.two_pow_pos n
theorem jL_sub {e f : Int32} {l q : Nat} (h : (jL e f l).testBit q = true) : l.testBit q = true := by
  unfold jL at h
  split at h
  · exact h
  · rw [Nat.zero_testBit] at h; cases h
theorem ipB_0 {d x : Nat} : ¬ ipB (d + 1) wy none d x := fun z => by
  rcases z with ⟨z, _⟩ | ⟨_, z⟩
  · omega
  · cases z
theorem JI.leave0 (hnx : ∀ u, nx u < 2 ^ nR) (hR6 : nR ≤ 6) (h : JI nx nR B up0 m0 m 1 wy lf en none) (hl : lf 0 = 0) : JI nx nR B up0 m0 (upd m (B + wy 0) (en 0)) 0 wy lf en none := by
  have hp : 2 ^ nR ≤ 64 := Nat.pow_le_pow_right (n := 2) (by decide) hR6
  have ht := JI.top hnx h hl
  obtain ⟨a1, a2, a3, a4, a5, a6, a7, a8, a9⟩ := h
  obtain ⟨b1, b2, _⟩ := a1 0 (by decide)
  have hne : en 0 ≠ -1 := by
    rcases ht with ⟨s, hs, h1, _⟩ | ⟨h1, _⟩
    · rw [h1]; exact (nI_n2 (by omega)).2.2
    · rw [h1]; decide
  have hc := cntC_same (c := -1) (B := B) (u := wy 0) (g := m) hne (by rw [b2]; decide) (2 ^ nR)
  refine ⟨fun i hi => absurd hi (Nat.not_lt_zero i), fun i j _ hj => absurd hj (Nat.not_lt_zero j), fun i hi => absurd hi (Nat.not_lt_zero _), fun v hv => (by cases hv), fun v hv _ => ?_, fun w hw => ?_, fun z => absurd z (Nat.lt_irrefl 0), fun _ _ => ?_, by omega⟩
  · by_cases e : v = wy 0
    · subst e
      rw [show upd m (B + wy 0) (en 0) (B + wy 0) = en 0 from pk_us]
      exact Or.inr ht
    · rw [show upd m (B + wy 0) (en 0) (B + v) = m (B + v) from pk_un (by omega)]
      exact a5 v hv (fun i hi z => e (by rw [show i = 0 by omega] at z; exact z.symm))
  · rw [show upd m (B + wy 0) (en 0) w = m w from pk_un (by omega)]
    exact a6 w hw
  · rw [← a7 (by decide), show upd m (B + wy 0) (en 0) (B + wy 0) = en 0 from pk_us]
    exact hne
theorem JI.leave {d : Nat} (hnx : ∀ u, nx u < 2 ^ nR) (hR6 : nR ≤ 6) (h : JI nx nR B up0 m0 m (d + 2) wy lf en none) (hl : lf (d + 1) = 0) : JI nx nR B up0 m0 (upd m (B + wy (d + 1)) (en (d + 1))) (d + 1) wy (upN lf d (jL (en d) (en (d + 1)) (lf d))) (upd en d (jE (en d) (en (d + 1)))) none := by
  have hp : 2 ^ nR ≤ 64 := Nat.pow_le_pow_right (n := 2) (by decide) hR6
  have ht := JI.top hnx h hl
  obtain ⟨a1, a2, a3, a4, a5, a6, a7, a8, a9⟩ := h
  obtain ⟨b1, b2, _⟩ := a1 (d + 1) (by omega)
  have hN := a3 d (by omega)
  have hne : en (d + 1) ≠ -1 := by
    rcases ht with ⟨s, hs, h1, _⟩ | ⟨h1, _⟩
    · rw [h1]; exact (nI_n2 (by omega)).2.2
    · rw [h1]; decide
  have hc := cntC_same (c := -1) (B := B) (u := wy (d + 1)) (g := m) hne (by rw [b2]; decide) (2 ^ nR)
  refine ⟨fun i hi => ?_, fun i j hij hj => a2 i j hij (by omega), fun i hi => a3 i (by omega), fun v hv => (by cases hv), fun v hv hno => ?_, fun w hw => ?_, fun _ => a7 (by omega), fun z => (by omega), by omega⟩
  · obtain ⟨c1, c2, c3, c4, c5⟩ := a1 i (by omega)
    have hm : upd m (B + wy (d + 1)) (en (d + 1)) (B + wy i) = m (B + wy i) := pk_un (fun z => a2 i (d + 1) (by omega) (by omega) (by omega))
    rw [hm]
    by_cases e : i = d
    · subst e
      rw [upN_s, show upd en i (jE (en i) (en (i + 1))) i = jE (en i) (en (i + 1)) from pk_us]
      refine ⟨c1, c2, jL_lt c3, fun r hr => c4 r (jL_sub hr), ?_⟩
      have hj := ENB.join hR6 hnx (c5.cg (ip' := fun y => y = wy (i + 1)) (fun x => ?_)) hN (f := en (i + 1)) ?_
      · exact hj.cg (fun x => ⟨fun z => z.elim, fun z => absurd z ipB_0⟩)
      · unfold ipB
        constructor
        · rintro (⟨_, z⟩ | ⟨z, _⟩)
          · exact z
          · omega
        · intro z
          exact Or.inl ⟨by omega, z⟩
      · rcases ht with ht | ⟨h1, h2⟩
        · exact Or.inl ht
        · exact Or.inr ⟨by rw [h1]; decide, fun s hs => h2 s (hs.next hN)⟩
    · rw [upN_n e, show upd en d (jE (en d) (en (d + 1))) i = en i from pk_un e]
      refine ⟨c1, c2, c3, c4, c5.cg (fun x => ?_)⟩
      unfold ipB
      constructor
      · rintro (⟨_, z⟩ | ⟨z, _⟩)
        · exact Or.inl ⟨by omega, z⟩
        · omega
      · rintro (⟨_, z⟩ | ⟨z, _⟩)
        · exact Or.inl ⟨by omega, z⟩
        · omega
  · by_cases e : v = wy (d + 1)
    · subst e
      rw [show upd m (B + wy (d + 1)) (en (d + 1)) (B + wy (d + 1)) = en (d + 1) from pk_us]
      exact Or.inr ht
    · rw [show upd m (B + wy (d + 1)) (en (d + 1)) (B + v) = m (B + v) from pk_un (by omega)]
      refine a5 v hv (fun i hi z => ?_)
      by_cases e2 : i = d + 1
      · rw [e2] at z; exact e z.symm
      · exact hno i (by omega) z
  · rw [show upd m (B + wy (d + 1)) (en (d + 1)) w = m w from pk_un (by omega)]
    exact a6 w hw
/-- a next one that stands on the way: no end -/
theorem JI.loop {d k : Nat} {ep : Option Nat} (h : JI nx nR B up0 m0 m (d + 1) wy lf en ep) (hk : k ≤ d) (hx : isN nx nR (wy d) (wy k)) : ∀ s, ¬ ST nx nR (wy d) s := by
  obtain ⟨a1, a2, a3, _⟩ := h
  have hc : ∀ s, ¬ ST nx nR (wy k) s := by
    have := ST.cycle (nx := nx) (nR := nR) (w := fun i => if i ≤ d - k then wy (k + i) else wy k) (k := d - k + 1) (fun i hi => ?_) (by omega) (by
      show (if d - k + 1 ≤ d - k then wy (k + (d - k + 1)) else wy k) = (if 0 ≤ d - k then wy (k + 0) else wy k)
      rw [if_neg (by omega), if_pos (Nat.zero_le _)]
      rfl)
    · intro s
      have h2 := this s
      rw [show (if 0 ≤ d - k then wy (k + 0) else wy k) = wy k from by rw [if_pos (Nat.zero_le _)]; rfl] at h2
      exact h2
    · show isN nx nR (if i ≤ d - k then wy (k + i) else wy k) (if i + 1 ≤ d - k then wy (k + (i + 1)) else wy k)
      rw [if_pos (by omega)]
      by_cases e : i + 1 ≤ d - k
      · rw [if_pos e]
        exact a3 (k + i) (by omega)
      · rw [if_neg e, show k + i = d by omega]
        exact hx
  exact fun s hs => hc s (hs.next hx)
theorem tb_r {l r nR : Nat} (hl : l < 2 ^ nR) (hr : l.testBit r = true) : r < nR := by
  rcases Nat.lt_or_ge r nR with h | h
  · exact h
  · rw [tb_lt hl h] at hr; cases hr
theorem xb_lt {l r nR : Nat} (hl : l < 2 ^ nR) (hr : l.testBit r = true) : l ^^^ 2 ^ r < 2 ^ nR := Nat.xor_lt_two_pow hl (Nat.pow_lt_pow_right (by decide) (tb_r hl hr))
theorem xb_sub {l r q : Nat} (hr : l.testBit r = true) (hq : (l ^^^ 2 ^ r).testBit q = true) : l.testBit q = true := by
  rw [Nat.testBit_xor, Nat.testBit_two_pow] at hq
  by_cases e : r = q
  · exact e ▸ hr
  · rw [decide_eq_false e, Bool.xor_false] at hq; exact hq
theorem JI.take {d r : Nat} (h : JI nx nR B up0 m0 m (d + 1) wy lf en none) (hr : (lf d).testBit r = true) (hm : m (B + (wy d ^^^ 2 ^ r)) = -1) : JI nx nR B up0 m0 m (d + 1) wy (upN lf d (lf d ^^^ 2 ^ r)) en (some (wy d ^^^ 2 ^ r)) := by
  obtain ⟨a1, a2, a3, a4, a5, a6, a7, a8, a9⟩ := h
  obtain ⟨c1, c2, c3, c4, c5⟩ := a1 d (by omega)
  have hN : isN nx nR (wy d) (wy d ^^^ 2 ^ r) := ⟨r, tb_r c3 hr, c4 r hr, rfl⟩
  refine ⟨fun i hi => ?_, a2, a3, fun v hv => ?_, a5, a6, a7, fun z => (by omega), a9⟩
  · by_cases e : i = d
    · subst e
      rw [upN_s]
      refine ⟨c1, c2, xb_lt c3 hr, fun q hq => c4 q (xb_sub hr hq), ?_⟩
      refine (ENB.pick (c5.cg (ip' := fun _ => False) (fun x => ⟨fun z => absurd z ipB_0, fun z => z.elim⟩)) hr).cg (fun x => ?_)
      unfold ipB
      constructor
      · intro z
        exact Or.inr ⟨rfl, by rw [z]⟩
      · rintro (⟨z, _⟩ | ⟨_, z⟩)
        · omega
        · exact (Option.some.inj z).symm
    · obtain ⟨b1, b2, b3, b4, b5⟩ := a1 i hi
      rw [upN_n e]
      refine ⟨b1, b2, b3, b4, b5.cg (fun x => ?_)⟩
      unfold ipB
      constructor
      · rintro (z | ⟨z, _⟩)
        · exact Or.inl z
        · omega
      · rintro (z | ⟨z, _⟩)
        · exact Or.inl z
        · omega
  · obtain rfl := Option.some.inj hv
    refine ⟨isN_lt c1 hN, hm, fun z => (by omega), fun i hi => ?_⟩
    rw [show i = d by omega]
    exact hN
theorem JI.found {d r : Nat} (hnx : ∀ u, nx u < 2 ^ nR) (hR6 : nR ≤ 6) (h : JI nx nR B up0 m0 m (d + 1) wy lf en none) (hr : (lf d).testBit r = true) (hm : m (B + (wy d ^^^ 2 ^ r)) ≠ -1) : JI nx nR B up0 m0 m (d + 1) wy (upN lf d (jL (en d) (m (B + (wy d ^^^ 2 ^ r))) (lf d ^^^ 2 ^ r))) (upd en d (jE (en d) (m (B + (wy d ^^^ 2 ^ r))))) none := by
  have hJ := h
  obtain ⟨a1, a2, a3, a4, a5, a6, a7, a8, a9⟩ := h
  obtain ⟨c1, c2, c3, c4, c5⟩ := a1 d (by omega)
  have hN : isN nx nR (wy d) (wy d ^^^ 2 ^ r) := ⟨r, tb_r c3 hr, c4 r hr, rfl⟩
  have hF : FND nx nR (wy d) (wy d ^^^ 2 ^ r) (m (B + (wy d ^^^ 2 ^ r))) := by
    by_cases hw : ∃ i, i < d + 1 ∧ wy i = wy d ^^^ 2 ^ r
    · obtain ⟨k, hk, e⟩ := hw
      refine Or.inr ⟨?_, JI.loop hJ (show k ≤ d by omega) (by rw [e]; exact hN)⟩
      rw [← e, (a1 k hk).2.1]
      decide
    · rcases a5 _ (isN_lt c1 hN) (fun i hi z => hw ⟨i, hi, z⟩) with z | z | ⟨z, z2⟩
      · exact absurd z hm
      · exact Or.inl z
      · exact Or.inr ⟨by rw [z]; decide, fun s hs => z2 s (hs.next hN)⟩
  refine ⟨fun i hi => ?_, a2, a3, fun v hv => (by cases hv), a5, a6, a7, fun z => (by omega), a9⟩
  by_cases e : i = d
  · subst e
    rw [upN_s, show upd en i (jE (en i) (m (B + (wy i ^^^ 2 ^ r)))) i = jE (en i) (m (B + (wy i ^^^ 2 ^ r))) from pk_us]
    refine ⟨c1, c2, jL_lt (xb_lt c3 hr), fun q hq => c4 q (xb_sub hr (jL_sub hq)), ?_⟩
    have hj := ENB.join hR6 hnx (ENB.pick (c5.cg (ip' := fun _ => False) (fun x => ⟨fun z => absurd z ipB_0, fun z => z.elim⟩)) hr) hN hF
    exact hj.cg (fun x => ⟨fun z => z.elim, fun z => absurd z ipB_0⟩)
  · obtain ⟨b1, b2, b3, b4, b5⟩ := a1 i hi
    rw [upN_n e, show upd en d (jE (en d) (m (B + (wy d ^^^ 2 ^ r)))) i = en i from pk_un e]
    exact ⟨b1, b2, b3, b4, b5⟩
/-! how many steps are left -/
def pcN (x : Nat) : Nat → Nat
  | 0 => 0
  | j + 1 => pcN x j + (x.testBit j).toNat
theorem pcN_le (x : Nat) : ∀ k, pcN x k ≤ k
  | 0 => Nat.le_refl 0
  | k + 1 => by
    have := pcN_le x k
    have := Bool.toNat_le (x.testBit k)
    unfold pcN
    omega
theorem pcN_0 : ∀ k, pcN 0 k = 0
  | 0 => rfl
  | k + 1 => by unfold pcN; rw [pcN_0 k, Nat.zero_testBit]; rfl
theorem pcN_x {x r : Nat} (hr : x.testBit r = true) : ∀ k, (k ≤ r → pcN (x ^^^ 2 ^ r) k = pcN x k) ∧ (r < k → pcN (x ^^^ 2 ^ r) k + 1 = pcN x k)
  | 0 => ⟨fun _ => rfl, fun h => absurd h (Nat.not_lt_zero r)⟩
  | k + 1 => by
    have ih := pcN_x hr k
    constructor
    · intro h
      unfold pcN
      rw [ih.1 (by omega), Nat.testBit_xor, Nat.testBit_two_pow, decide_eq_false (by omega), Bool.xor_false]
    · intro h
      unfold pcN
      rw [Nat.testBit_xor, Nat.testBit_two_pow]
      by_cases e : r = k
      · subst e
        rw [ih.1 (Nat.le_refl _), hr, decide_eq_true rfl]
        rfl
      · rw [decide_eq_false e, Bool.xor_false]
        have := ih.2 (by omega)
        omega
def wsm (lf : Nat → Nat) : Nat → Nat
  | 0 => 0
  | j + 1 => wsm lf j + (pcN (lf j) 6 + 1)
theorem wsm_up {lf : Nat → Nat} {d x : Nat} : ∀ {k : Nat}, k ≤ d → wsm (upN lf d x) k = wsm lf k
  | 0, _ => rfl
  | k + 1, h => by
    unfold wsm
    rw [wsm_up (k := k) (by omega), upN_n (by omega)]
theorem wsm_top {lf : Nat → Nat} {d x : Nat} : wsm (upN lf d x) (d + 1) = wsm lf d + (pcN x 6 + 1) := by
  show wsm (upN lf d x) d + (pcN (upN lf d x d) 6 + 1) = _
  rw [wsm_up (Nat.le_refl d), upN_s]
theorem pcN_jL {e f : Int32} {l : Nat} : pcN (jL e f l) 6 ≤ pcN l 6 := by
  unfold jL
  split
  · exact Nat.le_refl _
  · rw [pcN_0]; exact Nat.zero_le _
end WAY2
