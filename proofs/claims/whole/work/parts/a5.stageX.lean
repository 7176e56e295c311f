/-! x's planner: one stage -/
def PF (w : Nat) (f1 f2 : Value) (mst cnt : Int32) : List Value := [.ref (w + 43), .ref (w + 48), f1, f2, .int mst, .ref (w + 61), .ref (w + 62), .ref (w + 63), .int cnt]
theorem xz_iff {a b : Nat} : a ^^^ b = 0 ↔ a = b := by
  constructor
  · intro h
    refine Nat.eq_of_testBit_eq (fun i => ?_)
    have h2 : (a ^^^ b).testBit i = false := by rw [h, Nat.zero_testBit]
    rw [Nat.testBit_xor] at h2
    cases ha : a.testBit i <;> cases hb : b.testBit i <;> rw [ha, hb] at h2 <;> first | rfl | cases h2
  · intro h
    rw [h, Nat.xor_self]
/-- one stage, by places -/
def sgB (k s t : Nat) : Bool := decide (s &&& t = s) && (decide (s ≠ t) && decide (pqN (t ^^^ s).testBit 11 ≤ k))
set_option maxHeartbeats 8000000 in
theorem x_isStage {l : Launch} {G : GG} {h : AH} {nx : Nat} {Post : Option Value → AH → Nat → Prop} {w s t k : Nat} {f1 f2 : Value} {cnt : Int32} (hX : XC G ∧ TX l G) (hp : h (w + 60) = some (.inr (5, PF w f1 f2 (nI k) cnt))) (hs : s < 128) (ht : t < 128) (hk : k < 2 ^ 31) (hP : Post (some (.int (nI (sgB k s t).toNat))) h nx) : Runs l G i_X5_isStage 0 0 [.ref (w + 60), .int (nI s), .int (nI t)] h nx Post := by
  unfold sgB at hP
  have hx : t ^^^ s < 2048 := Nat.lt_trans (Nat.xor_lt_two_pow (n := 7) ht hs) (by decide)
  have hb : pqN (t ^^^ s).testBit 11 ≤ 11 := by
    have : ∀ n, pqN (t ^^^ s).testBit n ≤ n := fun n => by
      induction n with
      | zero => exact Nat.le_refl _
      | succ n ih =>
        show pqN _ n + _ ≤ _
        cases (t ^^^ s).testBit n
        · show pqN _ n + 0 ≤ _; omega
        · show pqN _ n + 1 ≤ _; omega
    exact this 11
  refine en_X5_isStage hX [] 60 rfl ?_
  have e0 : nI s &&& (nI t ^^^ (-1)) = nI (s ^^^ (s &&& t)) := nx_andn _ _
  have hlt : s ^^^ (s &&& t) < 128 := Nat.xor_lt_two_pow (n := 7) hs (Nat.lt_of_le_of_lt Nat.and_le_left hs)
  have ez : nI s &&& (nI t ^^^ (-1)) = 0 ↔ s &&& t = s := by
    rw [e0, show (0 : Int32) = nI 0 from rfl, nI_eq (by omega) (by decide)]
    constructor
    · intro z
      exact (xz_iff.mp z).symm
    · intro z
      rw [z, Nat.xor_self]
  by_cases c1 : s &&& t = s
  · rw [decide_eq_true c1, Bool.true_and] at hP
    refine And.intro (fun cz => absurd (ez.mpr c1) cz) (fun _ => ?_)
    by_cases c2 : s = t
    · rw [decide_eq_false (p := s ≠ t) (fun z => z c2)] at hP
      refine And.intro (fun _ => ?_) (fun cz => absurd (show nI s = nI t from by rw [c2]) cz)
      exact And.intro rfl (hP)
    · rw [decide_eq_true (p := s ≠ t) c2, Bool.true_and] at hP
      refine And.intro (fun cz => absurd cz (fun z => c2 ((nI_eq (by omega) (by omega)).mp z))) (fun _ => ?_)
      refine Exists.intro 0 (Exists.intro 0 (And.intro (Nat.le_refl _) (And.intro (Nat.le_refl _) ?_)))
      rw [nx_xor]
      refine c_bitCountI hX hx ?_
      refine Exists.intro _ (And.intro hp (Exists.intro _ (And.intro rfl ?_)))
      by_cases c3 : pqN (t ^^^ s).testBit 11 ≤ k
      · rw [decide_eq_true c3] at hP
        refine And.intro (fun cz => absurd cz (Int32.not_lt.mpr (nI_le c3 hk))) (fun _ => ?_)
        exact And.intro rfl (hP)
      · rw [decide_eq_false c3] at hP
        refine And.intro (fun _ => ?_) (fun cz => absurd (nI_lt (by omega) (by omega)) cz)
        exact And.intro rfl (hP)
  · rw [decide_eq_false c1, Bool.false_and] at hP
    refine And.intro (fun _ => ?_) (fun cz => absurd cz (fun z => c1 (ez.mp z)))
    exact And.intro rfl (hP)
