/-! logs -/
/-- n digits, five by five, each an input, and nothing left -/
def okA (m : Nat) : Nat → Nat → Bool
  | 0, r => decide (r = 0)
  | n + 1, r => decide (r % 5 < m) && okA m n (r / 5)
set_option maxHeartbeats 4000000 in
theorem c_areActs {l : Launch} {G : GG} {h : AH} {nx : Nat} {Post : Option Value → AH → Nat → Prop} {d m nn : Nat} {r0 : Nat} {fs : List Value} (hX : XC G ∧ TX l G) (hd : h d = some (.inr (0, fs))) (f0 : fs[0]? = some (.int (nI m))) (hm : m ≤ 5) (hn : nn ≤ 6) (hr : r0 < 2 ^ 31) (hP : Post (some (.int (nI (okA m nn r0).toNat))) h nx) : Runs l G i_X4_areActs 0 0 [.ref d, .int (nI nn), .int (nI r0)] h nx Post := by
  have loop : ∀ (k i r : Nat), i + k = nn → r < 2 ^ 31 → Post (some (.int (nI (okA m k r).toNat))) h nx → Go l G 4 s_X4_areActs 0 0 Post 21 [(4, .int (nI i)), (3, .int (nI r)), (0, .ref d), (1, .int (nI nn))] [] h nx 0 0 := by
    intro k
    induction k with
    | zero =>
      intro i r hi hr2 hQ
      refine Go.of hX.2 ck_X4_areActs [21] 30 ?_
      refine And.intro (fun _ => ?_) (fun cz => absurd (nI_le (by omega) (by omega)) cz)
      rw [show okA m 0 r = decide (r = 0) from rfl] at hQ
      by_cases h0 : r = 0
      · rw [decide_eq_true h0] at hQ
        refine And.intro (fun cz => absurd (by rw [h0]; rfl) cz) (fun _ => ?_)
        exact And.intro rfl hQ
      · rw [decide_eq_false h0] at hQ
        refine And.intro (fun _ => ?_) (fun cz => absurd cz (nI_ne0 (by omega) hr2))
        exact And.intro rfl hQ
    | succ k ih =>
      intro i r hi hr2 hQ
      have er : nI r - nI r / 5 * 5 = nI (r % 5) := pk_rem (d := 5) hr2 (by decide) (by decide)
      have ed : nI r / 5 = nI (r / 5) := pk_div (d := 5) hr2 (by decide) (by decide)
      rw [show okA m (k + 1) r = (decide (r % 5 < m) && okA m k (r / 5)) from rfl] at hQ
      refine Go.of hX.2 ck_X4_areActs [21] 50 ?_
      refine And.intro (fun cz => absurd cz (nI_ge (by omega) (by omega))) (fun _ => ?_)
      refine And.intro (by decide) ?_
      refine Exists.intro _ (And.intro hd (Exists.intro _ (And.intro f0 ?_)))
      by_cases h0 : r % 5 < m
      · rw [decide_eq_true h0, Bool.true_and] at hQ
        refine And.intro (fun _ => ?_) (fun cz => absurd (by rw [er]; exact nI_lt h0 (by omega)) cz)
        refine And.intro (by decide) ?_
        refine go_loc (lv' := [(4, .int (nI i + 1)), (3, .int (nI r / 5)), (0, .ref d), (1, .int (nI nn))]) ⟨rfl, rfl, rfl, rfl, trivial⟩ ?_
        rw [ed, ← nI_succ]
        exact ih (i + 1) (r / 5) (by omega) (by omega) hQ
      · rw [decide_eq_false h0, Bool.false_and] at hQ
        refine And.intro (fun cz => absurd cz (by rw [er]; exact nI_nlt (by omega) (by omega))) (fun _ => ?_)
        exact And.intro rfl hQ
  refine en_X4_areActs hX [21] 40 rfl ?_
  refine And.intro (fun cz => absurd cz (nI_pos (by omega))) (fun _ => ?_)
  refine And.intro (fun cz => absurd (nI_le (b := 6) hn (by decide)) (Int32.not_le.mpr cz)) (fun _ => ?_)
  refine And.intro (fun _ => ?_) (fun cz => absurd (nI_pos' hr) cz)
  exact go_loc (lv' := [(4, .int (nI 0)), (3, .int (nI r0)), (0, .ref d), (1, .int (nI nn))]) ⟨rfl, rfl, rfl, rfl, trivial⟩ (loop nn 0 r0 (Nat.zero_add _) hr hP)
set_option maxHeartbeats 4000000 in
theorem c_areActsNo {l : Launch} {G : GG} {h : AH} {nx : Nat} {Post : Option Value → AH → Nat → Prop} {d : Nat} {n a : Int32} (hX : XC G ∧ TX l G) (hno : n < 0 ∨ 6 < n ∨ a < 0) (hP : Post (some (.int 0)) h nx) : Runs l G i_X4_areActs 0 0 [.ref d, .int n, .int a] h nx Post := by
  refine en_X4_areActs hX [21] 40 rfl ?_
  by_cases h1 : n < 0
  · refine And.intro (fun _ => ?_) (fun cz => absurd h1 cz)
    exact And.intro rfl hP
  · refine And.intro (fun cz => absurd cz h1) (fun _ => ?_)
    by_cases h2 : 6 < n
    · refine And.intro (fun _ => ?_) (fun cz => absurd h2 cz)
      exact And.intro rfl hP
    · refine And.intro (fun cz => absurd cz h2) (fun _ => ?_)
      have h3 : a < 0 := (hno.resolve_left h1).resolve_left h2
      refine And.intro (fun cz => absurd h3 (Int32.not_lt.mpr cz)) (fun _ => ?_)
      exact And.intro rfl hP
