set_option maxHeartbeats 1000000 in
theorem c_isDigit12 {l : Launch} {G : GG} {h : AH} {nx : Nat} {x : Int32} {Post : Option Value → AH → Nat → Prop} (hX : XC G ∧ TX l G) (hP : Post (some (.int (if 48 ≤ x ∧ x ≤ 57 then 1 else 0))) h nx) : Runs l G i_X12_isDigit 0 0 [.int x] h nx Post := by
  refine en_X12_isDigit hX [] 50 rfl ?_
  refine And.intro (fun h1 => ?_) (fun h1 => ?_)
  · refine And.intro rfl ?_
    rw [if_neg (fun z => absurd h1 (Int32.not_lt.mpr z.1))] at hP
    exact hP
  · refine And.intro (fun h2 => ?_) (fun h2 => ?_)
    · refine And.intro rfl ?_
      rw [if_neg (fun z => absurd h2 (Int32.not_lt.mpr z.2))] at hP
      exact hP
    · refine And.intro rfl ?_
      rw [if_pos ⟨Int32.not_lt.mp h1, Int32.not_lt.mp h2⟩] at hP
      exact hP
set_option maxHeartbeats 1000000 in
theorem c_slowOf {l : Launch} {G : GG} {h : AH} {nx o q : Nat} {x : Int32} {fs : List Value} {f : Nat → Int32} {N : Nat} {Post : Option Value → AH → Nat → Prop} (hX : XC G ∧ TX l G) (ho : h o = some (.inr (0, fs))) (hs : fs[6]? = some (.ref q)) (hq : h q = some (.inl (0, N, .inl f))) (hN : 6 ≤ N) (hN2 : N < 100) (hP : Post (some (.int (if 0 ≤ x ∧ x < 6 then f x.toNatClampNeg else 0))) h nx) : Runs l G i_X0_slowOf 0 0 [.ref o, .int x] h nx Post := by
  refine en_X0_slowOf hX [] 50 rfl ?_
  refine And.intro (fun h1 => ?_) (fun h1 => ?_)
  · refine And.intro rfl ?_
    rw [if_neg (fun z => absurd h1 (Int32.not_lt.mpr z.1))] at hP
    exact hP
  · refine And.intro (fun h2 => ?_) (fun h2 => ?_)
    · refine And.intro rfl ?_
      rw [if_neg (fun z => absurd z.2 (Int32.not_lt.mpr h2))] at hP
      exact hP
    · refine Exists.intro _ (And.intro ho (Exists.intro _ (And.intro hs ?_)))
      refine Exists.intro _ (Exists.intro _ (And.intro hq (And.intro ?_ ?_)))
      · sorry
      · refine And.intro rfl ?_
        rw [if_pos ⟨Int32.not_lt.mp h1, Int32.not_le.mp h2⟩] at hP
        exact hP
