/-! the machine that reads a text, token by token; x's side of it -/
abbrev ZT : Type := Nat × Nat × Nat × Nat × Nat × Nat × Nat × Nat
def zS (z : ZT) : Nat := z.1
def zD (z : ZT) : Nat := z.2.1
def zT (z : ZT) : Nat := z.2.2.1
def zI (z : ZT) : Nat := z.2.2.2.1
def zR (z : ZT) : Nat := z.2.2.2.2.1
def zL (z : ZT) : Nat := z.2.2.2.2.2.1
def zV (z : ZT) : Nat := z.2.2.2.2.2.2.1
def zK (z : ZT) : Nat := z.2.2.2.2.2.2.2
def zTl (k : Nat) : Option Nat := if k = 4 ∨ k = 5 then some 1 else if k = 6 then some 3 else if k = 8 ∨ k = 9 then some 7 else if k = 10 then some 8 else none
/-- the state behind a token of kind k -/
def zB : Nat → Nat → Nat → Option Nat
  | 0, _, k => zTl k
  | 1, _, k => if k = 2 then some 2 else none
  | 2, _, k => if k = 12 then some 0 else none
  | 3, _, k => if k = 2 then some 4 else none
  | 4, _, k => if k = 7 then some 5 else if k = 13 then some 10 else none
  | 5, _, k => if k = 3 then some 6 else none
  | 6, _, k => if k = 13 then some 10 else none
  | 7, _, k => if k = 2 then some 6 else none
  | 8, _, k => if k = 2 then some 9 else none
  | 9, _, k => if k = 11 then some 10 else none
  | 10, _, k => if k = 2 then some 12 else if k = 14 then some 11 else if k = 17 then some 10 else none
  | 11, _, k => if k = 2 then some 12 else none
  | _, d, k => if k = 15 ∨ k = 16 then some 10 else if k = 18 ∧ 0 < d then some 12 else if k = 12 ∧ d = 0 then some 0 else none
/-- is the token's name a contact's -/
def zC (z : ZT) : Bool := (decide (zS z = 10) || decide (zS z = 11)) && decide (zT z ≠ 10)
/-- no room for a token of kind k -/
def zO (z : ZT) (k : Nat) : Bool := if k = 4 ∨ k = 5 then decide (5 ≤ zI z) else if k = 6 then decide (6 ≤ zR z) else if k = 8 ∨ k = 9 then decide (5 ≤ zL z) else if k = 10 then decide (6 ≤ zV z) else if k = 2 then (zC z && decide (40 ≤ zK z)) else if k = 17 then decide (4 ≤ zD z) else false
/-- what a token of kind k makes of it -/
def zA (z : ZT) (k s : Nat) : ZT := if zS z = 0 then (s, zD z, k, zI z, zR z, zL z, (if k = 10 then zV z + 1 else zV z), zK z)
  else if k = 2 then (if zS z = 1 then (s, zD z, zT z, zI z + 1, zR z, zL z, zV z, zK z) else if zS z = 3 then (s, zD z, zT z, zI z, zR z + 1, zL z, zV z, zK z) else if zS z = 7 then (s, zD z, zT z, zI z, zR z, zL z + 1, zV z, zK z) else if zC z = true then (s, zD z, zT z, zI z, zR z, zL z, zV z, zK z + 1) else (s, zD z, zT z, zI z, zR z, zL z, zV z, zK z))
  else if k = 17 then (s, zD z + 1, zT z, zI z, zR z, zL z, zV z, zK z)
  else if k = 18 then (s, zD z - 1, zT z, zI z, zR z, zL z, zV z, zK z)
  else (s, zD z, zT z, zI z, zR z, zL z, zV z, zK z)
def z0 : ZT := (0, 0, 0, 0, 0, 0, 0, 0)
/-- ahead of token i -/
def zz (kd : Nat → Nat) : Nat → ZT
  | 0 => z0
  | i + 1 => zA (zz kd i) (kd i) ((zB (zS (zz kd i)) (zD (zz kd i)) (kd i)).getD 0)
/-- token i may stand where it stands, and has room -/
def zok (kd : Nat → Nat) (i : Nat) : Prop := i < 400 ∧ (∃ s, zB (zS (zz kd i)) (zD (zz kd i)) (kd i) = some s) ∧ zO (zz kd i) (kd i) = false
def zBI (r : Option Nat) : Int32 := match r with
  | none => -1
  | some s => nI s

set_option maxHeartbeats 8000000 in
theorem x_tellB {l : Launch} {G : GG} {h : AH} {nx : Nat} {Post : Option Value → AH → Nat → Prop} {k : Nat} (hX : XC G ∧ TX l G) (hk : k < 19) (hP : Post (some (.int (zBI (zTl k)))) h nx) : Runs l G i_X6_stateBehindTell 0 0 [.int (nI k)] h nx Post := by
  have kk : ∀ j, j < 100 → nI k = nI j → k = j := fun j hj e => (nI_eq (by omega) (by omega)).mp e
  unfold zTl at hP
  refine en_X6_stateBehindTell hX [] 20 rfl ?_
  refine And.intro (fun hdd => ?_) (And.intro (fun h0 => ?_) (And.intro (fun h0 => ?_) (And.intro (fun h0 => ?_) (And.intro (fun h0 => ?_) (And.intro (fun h0 => ?_) (And.intro (fun h0 => ?_) (And.intro (fun h0 => ?_) trivial)))))))
  · rw [nI_toInt (by omega)] at hdd
    rw [if_neg (by omega), if_neg (by omega), if_neg (by omega), if_neg (by omega)] at hP
    exact And.intro rfl (hP)
  · have e : k = 4 := kk 4 (by decide) (h0.trans (by decide))
    subst e
    exact And.intro rfl (hP)
  · have e : k = 5 := kk 5 (by decide) (h0.trans (by decide))
    subst e
    exact And.intro rfl (hP)
  · have e : k = 6 := kk 6 (by decide) (h0.trans (by decide))
    subst e
    exact And.intro rfl (hP)
  · have e : k = 7 := kk 7 (by decide) (h0.trans (by decide))
    subst e
    exact And.intro rfl (hP)
  · have e : k = 8 := kk 8 (by decide) (h0.trans (by decide))
    subst e
    exact And.intro rfl (hP)
  · have e : k = 9 := kk 9 (by decide) (h0.trans (by decide))
    subst e
    exact And.intro rfl (hP)
  · have e : k = 10 := kk 10 (by decide) (h0.trans (by decide))
    subst e
    exact And.intro rfl (hP)
set_option maxHeartbeats 8000000 in
theorem x_unitB {l : Launch} {G : GG} {h : AH} {nx : Nat} {Post : Option Value → AH → Nat → Prop} {r k d : Nat} {fs : List Value} (hX : XC G ∧ TX l G) (hk : k < 19) (hr : h r = some (.inr (6, fs))) (f8 : fs[8]? = some (.int (nI d))) (hd : d < 10) (hP : Post (some (.int (zBI (zB 12 d k)))) h nx) : Runs l G i_X6_stateBehindUnit 0 0 [.ref r, .int (nI k)] h nx Post := by
  have kne : ∀ j, j < 100 → k ≠ j → ¬ nI k = nI j := fun j hj z e => z ((nI_eq (by omega) (by omega)).mp e)
  have hP : Post (some (.int (zBI (if k = 15 ∨ k = 16 then some 10 else if k = 18 ∧ 0 < d then some 12 else if k = 12 ∧ d = 0 then some 0 else none)))) h nx := hP
  refine en_X6_stateBehindUnit hX [31] 60 rfl ?_
  by_cases c1 : k = 15
  · rw [if_pos (Or.inl c1)] at hP
    refine And.intro (fun _ => ?_) (fun cz => absurd (show nI k = nI 15 from by rw [c1]) cz)
    exact And.intro rfl (hP)
  · refine And.intro (fun cz => absurd cz (kne 15 (by decide) c1)) (fun _ => ?_)
    by_cases c2 : k = 16
    · rw [if_pos (Or.inr c2)] at hP
      refine And.intro (fun cz => absurd (show nI k = nI 16 from by rw [c2]) cz) (fun _ => ?_)
      exact And.intro rfl (hP)
    · rw [if_neg (by omega)] at hP
      refine And.intro (fun _ => ?_) (fun cz => absurd cz (kne 16 (by decide) c2))
      have last : k ≠ 18 ∨ ¬ 0 < d → Go l G 6 s_X6_stateBehindUnit 0 0 Post 31 [(0, .ref r), (1, .int (nI k))] [] h nx 0 0 := by
        intro hno
        rw [if_neg (by omega)] at hP
        refine Go.of hX.2 ck_X6_stateBehindUnit [] 30 ?_
        by_cases c4 : k = 12
        · refine And.intro (fun cz => absurd (show nI k = nI 12 from by rw [c4]) cz) (fun _ => ?_)
          refine Exists.intro _ (And.intro hr (Exists.intro _ (And.intro f8 ?_)))
          by_cases c5 : d = 0
          · rw [if_pos ⟨c4, c5⟩] at hP
            refine And.intro (fun cz => absurd (show nI d = 0 from by rw [c5]; rfl) cz) (fun _ => ?_)
            exact And.intro rfl (hP)
          · rw [if_neg (fun z => c5 z.2)] at hP
            refine And.intro (fun _ => ?_) (fun cz => absurd cz (nI_ne0 (by omega) (by omega)))
            exact And.intro rfl (hP)
        · rw [if_neg (fun z => c4 z.1)] at hP
          refine And.intro (fun _ => ?_) (fun cz => absurd cz (kne 12 (by decide) c4))
          exact And.intro rfl (hP)
      by_cases c3 : k = 18
      · refine And.intro (fun cz => absurd (show nI k = nI 18 from by rw [c3]) cz) (fun _ => ?_)
        refine Exists.intro _ (And.intro hr (Exists.intro _ (And.intro f8 ?_)))
        by_cases c6 : d = 0
        · refine And.intro (fun _ => ?_) (fun cz => absurd (show nI d ≤ 0 from by rw [c6]; decide) cz)
          exact go_loc (lv' := [(0, .ref r), (1, .int (nI k))]) ⟨rfl, rfl, trivial⟩ (last (Or.inr (by omega)))
        · rw [if_pos ⟨c3, by omega⟩] at hP
          refine And.intro (fun cz => absurd cz (fun z => c6 (by have := (nI_leI (a := d) (b := 0) (by omega) (by decide)).mp z; omega))) (fun _ => ?_)
          exact And.intro rfl (hP)
      · refine And.intro (fun _ => ?_) (fun cz => absurd cz (kne 18 (by decide) c3))
        exact go_loc (lv' := [(0, .ref r), (1, .int (nI k))]) ⟨rfl, rfl, trivial⟩ (last (Or.inl c3))
set_option maxHeartbeats 8000000 in
theorem x_stateBehind {l : Launch} {G : GG} {h : AH} {nx : Nat} {Post : Option Value → AH → Nat → Prop} {r k s d : Nat} {fs : List Value} (hX : XC G ∧ TX l G) (hk : k < 19) (hr : h r = some (.inr (6, fs))) (f7 : fs[7]? = some (.int (nI s))) (f8 : fs[8]? = some (.int (nI d))) (hs : s < 13) (hd : d < 10) (hP : Post (some (.int (zBI (zB s d k)))) h nx) : Runs l G i_X6_stateBehind 0 0 [.ref r, .int (nI k)] h nx Post := by
  have kne : ∀ j, j < 100 → k ≠ j → ¬ nI k = nI j := fun j hj z e => z ((nI_eq (by omega) (by omega)).mp e)
  have ss : ∀ j, j < 100 → nI s = nI j → s = j := fun j hj e => (nI_eq (by omega) (by omega)).mp e
  refine en_X6_stateBehind hX [] 40 rfl ?_
  refine Exists.intro _ (And.intro hr (Exists.intro _ (And.intro f7 ?_)))
  refine And.intro (fun hdd => ?_) (And.intro (fun h0 => ?_) (And.intro (fun h0 => ?_) (And.intro (fun h0 => ?_) (And.intro (fun h0 => ?_) (And.intro (fun h0 => ?_) (And.intro (fun h0 => ?_) (And.intro (fun h0 => ?_) (And.intro (fun h0 => ?_) (And.intro (fun h0 => ?_) (And.intro (fun h0 => ?_) (And.intro (fun h0 => ?_) (And.intro (fun h0 => ?_) trivial))))))))))))
  · rw [nI_toInt (by omega)] at hdd
    have e : s = 12 := by omega
    subst e
    refine Exists.intro _ (And.intro hr (Exists.intro 0 (Exists.intro 0 (And.intro (Nat.le_refl _) (And.intro (Nat.le_refl _) (x_unitB hX hk hr f8 hd ?_))))))
    exact And.intro rfl (hP)
  · have e : s = 0 := ss 0 (by decide) (h0.trans (by decide))
    subst e
    refine Exists.intro 0 (Exists.intro 0 (And.intro (Nat.le_refl _) (And.intro (Nat.le_refl _) (x_tellB hX hk ?_))))
    exact And.intro rfl (hP)
  · have e : s = 1 := ss 1 (by decide) (h0.trans (by decide))
    subst e
    have hP : Post (some (.int (zBI (if k = 2 then some 2 else none)))) h nx := hP
    by_cases c2 : k = 2
    · rw [if_pos c2] at hP
      refine And.intro (fun cz => absurd (show nI k = nI 2 from by rw [c2]) cz) (fun _ => ?_)
      exact And.intro rfl (hP)
    · rw [if_neg c2] at hP
      refine And.intro (fun _ => ?_) (fun cz => absurd cz (kne 2 (by decide) c2))
      exact And.intro rfl (hP)
  · have e : s = 2 := ss 2 (by decide) (h0.trans (by decide))
    subst e
    have hP : Post (some (.int (zBI (if k = 12 then some 0 else none)))) h nx := hP
    by_cases c12 : k = 12
    · rw [if_pos c12] at hP
      refine And.intro (fun cz => absurd (show nI k = nI 12 from by rw [c12]) cz) (fun _ => ?_)
      exact And.intro rfl (hP)
    · rw [if_neg c12] at hP
      refine And.intro (fun _ => ?_) (fun cz => absurd cz (kne 12 (by decide) c12))
      exact And.intro rfl (hP)
  · have e : s = 3 := ss 3 (by decide) (h0.trans (by decide))
    subst e
    have hP : Post (some (.int (zBI (if k = 2 then some 4 else none)))) h nx := hP
    by_cases c2 : k = 2
    · rw [if_pos c2] at hP
      refine And.intro (fun cz => absurd (show nI k = nI 2 from by rw [c2]) cz) (fun _ => ?_)
      exact And.intro rfl (hP)
    · rw [if_neg c2] at hP
      refine And.intro (fun _ => ?_) (fun cz => absurd cz (kne 2 (by decide) c2))
      exact And.intro rfl (hP)
  · have e : s = 4 := ss 4 (by decide) (h0.trans (by decide))
    subst e
    have hP : Post (some (.int (zBI (if k = 7 then some 5 else if k = 13 then some 10 else none)))) h nx := hP
    by_cases c7 : k = 7
    · rw [if_pos c7] at hP
      refine And.intro (fun cz => absurd (show nI k = nI 7 from by rw [c7]) cz) (fun _ => ?_)
      exact And.intro rfl (hP)
    · rw [if_neg c7] at hP
      refine And.intro (fun _ => ?_) (fun cz => absurd cz (kne 7 (by decide) c7))
      by_cases c13 : k = 13
      · rw [if_pos c13] at hP
        refine And.intro (fun cz => absurd (show nI k = nI 13 from by rw [c13]) cz) (fun _ => ?_)
        exact And.intro rfl (hP)
      · rw [if_neg c13] at hP
        refine And.intro (fun _ => ?_) (fun cz => absurd cz (kne 13 (by decide) c13))
        exact And.intro rfl (hP)
  · have e : s = 5 := ss 5 (by decide) (h0.trans (by decide))
    subst e
    have hP : Post (some (.int (zBI (if k = 3 then some 6 else none)))) h nx := hP
    by_cases c3 : k = 3
    · rw [if_pos c3] at hP
      refine And.intro (fun cz => absurd (show nI k = nI 3 from by rw [c3]) cz) (fun _ => ?_)
      exact And.intro rfl (hP)
    · rw [if_neg c3] at hP
      refine And.intro (fun _ => ?_) (fun cz => absurd cz (kne 3 (by decide) c3))
      exact And.intro rfl (hP)
  · have e : s = 6 := ss 6 (by decide) (h0.trans (by decide))
    subst e
    have hP : Post (some (.int (zBI (if k = 13 then some 10 else none)))) h nx := hP
    by_cases c13 : k = 13
    · rw [if_pos c13] at hP
      refine And.intro (fun cz => absurd (show nI k = nI 13 from by rw [c13]) cz) (fun _ => ?_)
      exact And.intro rfl (hP)
    · rw [if_neg c13] at hP
      refine And.intro (fun _ => ?_) (fun cz => absurd cz (kne 13 (by decide) c13))
      exact And.intro rfl (hP)
  · have e : s = 7 := ss 7 (by decide) (h0.trans (by decide))
    subst e
    have hP : Post (some (.int (zBI (if k = 2 then some 6 else none)))) h nx := hP
    by_cases c2 : k = 2
    · rw [if_pos c2] at hP
      refine And.intro (fun cz => absurd (show nI k = nI 2 from by rw [c2]) cz) (fun _ => ?_)
      exact And.intro rfl (hP)
    · rw [if_neg c2] at hP
      refine And.intro (fun _ => ?_) (fun cz => absurd cz (kne 2 (by decide) c2))
      exact And.intro rfl (hP)
  · have e : s = 8 := ss 8 (by decide) (h0.trans (by decide))
    subst e
    have hP : Post (some (.int (zBI (if k = 2 then some 9 else none)))) h nx := hP
    by_cases c2 : k = 2
    · rw [if_pos c2] at hP
      refine And.intro (fun cz => absurd (show nI k = nI 2 from by rw [c2]) cz) (fun _ => ?_)
      exact And.intro rfl (hP)
    · rw [if_neg c2] at hP
      refine And.intro (fun _ => ?_) (fun cz => absurd cz (kne 2 (by decide) c2))
      exact And.intro rfl (hP)
  · have e : s = 9 := ss 9 (by decide) (h0.trans (by decide))
    subst e
    have hP : Post (some (.int (zBI (if k = 11 then some 10 else none)))) h nx := hP
    by_cases c11 : k = 11
    · rw [if_pos c11] at hP
      refine And.intro (fun cz => absurd (show nI k = nI 11 from by rw [c11]) cz) (fun _ => ?_)
      exact And.intro rfl (hP)
    · rw [if_neg c11] at hP
      refine And.intro (fun _ => ?_) (fun cz => absurd cz (kne 11 (by decide) c11))
      exact And.intro rfl (hP)
  · have e : s = 10 := ss 10 (by decide) (h0.trans (by decide))
    subst e
    have hP : Post (some (.int (zBI (if k = 2 then some 12 else if k = 14 then some 11 else if k = 17 then some 10 else none)))) h nx := hP
    by_cases c2 : k = 2
    · rw [if_pos c2] at hP
      refine And.intro (fun cz => absurd (show nI k = nI 2 from by rw [c2]) cz) (fun _ => ?_)
      exact And.intro rfl (hP)
    · rw [if_neg c2] at hP
      refine And.intro (fun _ => ?_) (fun cz => absurd cz (kne 2 (by decide) c2))
      by_cases c14 : k = 14
      · rw [if_pos c14] at hP
        refine And.intro (fun cz => absurd (show nI k = nI 14 from by rw [c14]) cz) (fun _ => ?_)
        exact And.intro rfl (hP)
      · rw [if_neg c14] at hP
        refine And.intro (fun _ => ?_) (fun cz => absurd cz (kne 14 (by decide) c14))
        by_cases c17 : k = 17
        · rw [if_pos c17] at hP
          refine And.intro (fun cz => absurd (show nI k = nI 17 from by rw [c17]) cz) (fun _ => ?_)
          exact And.intro rfl (hP)
        · rw [if_neg c17] at hP
          refine And.intro (fun _ => ?_) (fun cz => absurd cz (kne 17 (by decide) c17))
          exact And.intro rfl (hP)
  · have e : s = 11 := ss 11 (by decide) (h0.trans (by decide))
    subst e
    have hP : Post (some (.int (zBI (if k = 2 then some 12 else none)))) h nx := hP
    by_cases c2 : k = 2
    · rw [if_pos c2] at hP
      refine And.intro (fun cz => absurd (show nI k = nI 2 from by rw [c2]) cz) (fun _ => ?_)
      exact And.intro rfl (hP)
    · rw [if_neg c2] at hP
      refine And.intro (fun _ => ?_) (fun cz => absurd cz (kne 2 (by decide) c2))
      exact And.intro rfl (hP)
set_option maxHeartbeats 8000000 in
theorem x_isCircuitName {l : Launch} {G : GG} {h : AH} {nx : Nat} {Post : Option Value → AH → Nat → Prop} {s : Nat} (hX : XC G ∧ TX l G) (hs : s < 13) (hP : Post (some (.int (nI (decide (s = 10) || decide (s = 11)).toNat))) h nx) : Runs l G i_X6_isCircuitName 0 0 [.int (nI s)] h nx Post := by
  have kne : ∀ j, j < 100 → s ≠ j → ¬ nI s = nI j := fun j hj z e => z ((nI_eq (by omega) (by omega)).mp e)
  refine en_X6_isCircuitName hX [] 20 rfl ?_
  by_cases c1 : s = 10
  · rw [decide_eq_true c1, Bool.true_or] at hP
    refine And.intro (fun _ => ?_) (fun cz => absurd (show nI s = nI 10 from by rw [c1]) cz)
    exact And.intro rfl (hP)
  · rw [decide_eq_false c1, Bool.false_or] at hP
    refine And.intro (fun cz => absurd cz (kne 10 (by decide) c1)) (fun _ => ?_)
    by_cases c2 : s = 11
    · rw [decide_eq_true c2] at hP
      refine And.intro (fun cz => absurd (show nI s = nI 11 from by rw [c2]) cz) (fun _ => ?_)
      exact And.intro rfl (hP)
    · rw [decide_eq_false c2] at hP
      refine And.intro (fun _ => ?_) (fun cz => absurd cz (kne 11 (by decide) c2))
      exact And.intro rfl (hP)
set_option maxHeartbeats 8000000 in
theorem x_isContact {l : Launch} {G : GG} {h : AH} {nx : Nat} {Post : Option Value → AH → Nat → Prop} {r s tg : Nat} {fs : List Value} (hX : XC G ∧ TX l G) (hr : h r = some (.inr (6, fs))) (f19 : fs[19]? = some (.int (nI tg))) (hs : s < 13) (ht : tg < 19) (hP : Post (some (.int (nI ((decide (s = 10) || decide (s = 11)) && decide (tg ≠ 10)).toNat))) h nx) : Runs l G i_X6_isContact 0 0 [.ref r, .int (nI s)] h nx Post := by
  refine en_X6_isContact hX [] 20 rfl ?_
  refine Exists.intro 0 (Exists.intro 0 (And.intro (Nat.le_refl _) (And.intro (Nat.le_refl _) (x_isCircuitName hX hs ?_))))
  cases c1 : (decide (s = 10) || decide (s = 11)) with
  | false =>
    rw [c1, Bool.false_and] at hP
    refine And.intro (fun _ => ?_) (fun cz => by first | exact absurd cz (by decide) | exact absurd (by decide) cz)
    exact And.intro rfl (hP)
  | true =>
    rw [c1, Bool.true_and] at hP
    refine And.intro (fun cz => by first | exact absurd cz (by decide) | exact absurd (by decide) cz) (fun _ => ?_)
    refine Exists.intro _ (And.intro hr (Exists.intro _ (And.intro f19 ?_)))
    by_cases c2 : tg = 10
    · rw [decide_eq_false (p := tg ≠ 10) (fun z => z c2)] at hP
      refine And.intro (fun _ => ?_) (fun cz => absurd (show nI tg = nI 10 from by rw [c2]) cz)
      exact And.intro rfl (hP)
    · rw [decide_eq_true (p := tg ≠ 10) c2] at hP
      refine And.intro (fun cz => absurd cz (fun e => c2 ((nI_eq (by omega) (by decide)).mp (show nI tg = nI 10 from e)))) (fun _ => ?_)
      exact And.intro rfl (hP)
/-- x's reading object ahead of token i -/
def rdO (r i : Nat) (pl : Int32) (z : ZT) : List Value := [.ref (r + 1), .ref (r + 4), .ref (r + 5), .ref (r + 6), .ref (r + 7), .ref (r + 8), .int (nI i), .int (nI (zS z)), .int (nI (zD z)), .int pl, .ref (r + 9), .ref (r + 10), .ref (r + 11), .int (nI (zI z + zR z + zL z)), .int (nI (zI z)), .int (nI (zR z)), .int (nI (zL z)), .int (nI (zV z)), .int (nI (zK z)), .int (nI (zT z))]
/-- what holds ahead of every token -/
def zW (z : ZT) : Prop := zS z < 13 ∧ zD z ≤ 4 ∧ zT z < 19 ∧ zI z ≤ 5 ∧ zR z ≤ 6 ∧ zL z ≤ 5 ∧ zV z ≤ 6 ∧ zK z ≤ 40 ∧ (zS z < 10 → zD z = 0) ∧ (zS z = 1 ∨ zS z = 2 → zT z = 4 ∨ zT z = 5) ∧ (zS z = 3 ∨ zS z = 4 ∨ zS z = 5 → zT z = 6) ∧ (zS z = 6 → zT z = 6 ∨ zT z = 8 ∨ zT z = 9) ∧ (zS z = 7 → zT z = 8 ∨ zT z = 9) ∧ (zS z = 8 ∨ zS z = 9 → zT z = 10) ∧ (10 ≤ zS z → zT z = 6 ∨ zT z = 8 ∨ zT z = 9 ∨ zT z = 10) ∧ (zS z = 1 → zI z < 5) ∧ (zS z = 3 → zR z < 6) ∧ (zS z = 7 → zL z < 5)
theorem zW_0 : zW z0 := by unfold zW; decide
set_option maxHeartbeats 8000000 in
theorem x_isOutOfRoom {l : Launch} {G : GG} {h : AH} {nx : Nat} {Post : Option Value → AH → Nat → Prop} {r k i : Nat} {pl : Int32} {z : ZT} (hX : XC G ∧ TX l G) (hk : k < 19) (hr : h r = some (.inr (6, rdO r i pl z))) (hz : zW z) (hP : Post (some (.int (nI (zO z k).toNat))) h nx) : Runs l G i_X6_isOutOfRoom 0 0 [.ref r, .int (nI k)] h nx Post := by
  have kk : ∀ j, j < 100 → nI k = nI j → k = j := fun j hj e => (nI_eq (by omega) (by omega)).mp e
  obtain ⟨w1, w2, w3, w4, w5, w6, w7, w8, _⟩ := hz
  refine en_X6_isOutOfRoom hX [] 40 rfl ?_
  refine And.intro (fun hdd => ?_) (And.intro (fun h0 => ?_) (And.intro (fun h0 => ?_) (And.intro (fun h0 => ?_) (And.intro (fun h0 => ?_) (And.intro (fun h0 => ?_) (And.intro (fun h0 => ?_) (And.intro (fun h0 => ?_) (And.intro (fun h0 => ?_) (And.intro (fun h0 => ?_) (And.intro (fun h0 => ?_) (And.intro (fun h0 => ?_) (And.intro (fun h0 => ?_) (And.intro (fun h0 => ?_) (And.intro (fun h0 => ?_) (And.intro (fun h0 => ?_) (And.intro (fun h0 => ?_) trivial))))))))))))))))
  · rw [nI_toInt (by omega)] at hdd
    unfold zO at hP
    rw [if_neg (by omega), if_neg (by omega), if_neg (by omega), if_neg (by omega), if_neg (by omega), if_neg (by omega)] at hP
    exact And.intro rfl (hP)
  · have e : k = 2 := kk 2 (by decide) (h0.trans (by decide))
    subst e
    have hP : Post (some (.int (nI (zC z && decide (40 ≤ zK z)).toNat))) h nx := hP
    refine Exists.intro _ (And.intro hr (Exists.intro _ (And.intro rfl ?_)))
    refine Exists.intro _ (And.intro hr (Exists.intro 0 (Exists.intro 0 (And.intro (Nat.le_refl _) (And.intro (Nat.le_refl _) (x_isContact hX hr rfl w1 w3 ?_))))))
    unfold zC at hP
    cases c1 : ((decide (zS z = 10) || decide (zS z = 11)) && decide (zT z ≠ 10)) with
    | false =>
      rw [c1, Bool.false_and] at hP
      refine And.intro (fun _ => ?_) (fun cz => by first | exact absurd cz (by decide) | exact absurd (by decide) cz)
      exact And.intro rfl (hP)
    | true =>
      rw [c1, Bool.true_and] at hP
      refine And.intro (fun cz => by first | exact absurd cz (by decide) | exact absurd (by decide) cz) (fun _ => ?_)
      refine Exists.intro _ (And.intro hr (Exists.intro _ (And.intro rfl ?_)))
      by_cases c : 40 ≤ zK z
      · rw [decide_eq_true c] at hP
        refine And.intro (fun cz => absurd cz (nI_nlt (b := 40) c (by omega))) (fun _ => ?_)
        exact And.intro rfl (hP)
      · rw [decide_eq_false c] at hP
        refine And.intro (fun _ => ?_) (fun cz => absurd (nI_lt (a := zK z) (b := 40) (by omega) (by decide)) cz)
        exact And.intro rfl (hP)
  · have e : k = 3 := kk 3 (by decide) (h0.trans (by decide))
    subst e
    exact And.intro rfl (hP)
  · have e : k = 4 := kk 4 (by decide) (h0.trans (by decide))
    subst e
    have hP : Post (some (.int (nI (decide (5 ≤ zI z)).toNat))) h nx := hP
    refine Exists.intro _ (And.intro hr (Exists.intro _ (And.intro rfl ?_)))
    by_cases c : 5 ≤ zI z
    · rw [decide_eq_true c] at hP
      refine And.intro (fun cz => absurd cz (nI_nlt (b := 5) c (by omega))) (fun _ => ?_)
      exact And.intro rfl (hP)
    · rw [decide_eq_false c] at hP
      refine And.intro (fun _ => ?_) (fun cz => absurd (nI_lt (a := zI z) (b := 5) (by omega) (by decide)) cz)
      exact And.intro rfl (hP)
  · have e : k = 5 := kk 5 (by decide) (h0.trans (by decide))
    subst e
    have hP : Post (some (.int (nI (decide (5 ≤ zI z)).toNat))) h nx := hP
    refine Exists.intro _ (And.intro hr (Exists.intro _ (And.intro rfl ?_)))
    by_cases c : 5 ≤ zI z
    · rw [decide_eq_true c] at hP
      refine And.intro (fun cz => absurd cz (nI_nlt (b := 5) c (by omega))) (fun _ => ?_)
      exact And.intro rfl (hP)
    · rw [decide_eq_false c] at hP
      refine And.intro (fun _ => ?_) (fun cz => absurd (nI_lt (a := zI z) (b := 5) (by omega) (by decide)) cz)
      exact And.intro rfl (hP)
  · have e : k = 6 := kk 6 (by decide) (h0.trans (by decide))
    subst e
    have hP : Post (some (.int (nI (decide (6 ≤ zR z)).toNat))) h nx := hP
    refine Exists.intro _ (And.intro hr (Exists.intro _ (And.intro rfl ?_)))
    by_cases c : 6 ≤ zR z
    · rw [decide_eq_true c] at hP
      refine And.intro (fun cz => absurd cz (nI_nlt (b := 6) c (by omega))) (fun _ => ?_)
      exact And.intro rfl (hP)
    · rw [decide_eq_false c] at hP
      refine And.intro (fun _ => ?_) (fun cz => absurd (nI_lt (a := zR z) (b := 6) (by omega) (by decide)) cz)
      exact And.intro rfl (hP)
  · have e : k = 7 := kk 7 (by decide) (h0.trans (by decide))
    subst e
    exact And.intro rfl (hP)
  · have e : k = 8 := kk 8 (by decide) (h0.trans (by decide))
    subst e
    have hP : Post (some (.int (nI (decide (5 ≤ zL z)).toNat))) h nx := hP
    refine Exists.intro _ (And.intro hr (Exists.intro _ (And.intro rfl ?_)))
    by_cases c : 5 ≤ zL z
    · rw [decide_eq_true c] at hP
      refine And.intro (fun cz => absurd cz (nI_nlt (b := 5) c (by omega))) (fun _ => ?_)
      exact And.intro rfl (hP)
    · rw [decide_eq_false c] at hP
      refine And.intro (fun _ => ?_) (fun cz => absurd (nI_lt (a := zL z) (b := 5) (by omega) (by decide)) cz)
      exact And.intro rfl (hP)
  · have e : k = 9 := kk 9 (by decide) (h0.trans (by decide))
    subst e
    have hP : Post (some (.int (nI (decide (5 ≤ zL z)).toNat))) h nx := hP
    refine Exists.intro _ (And.intro hr (Exists.intro _ (And.intro rfl ?_)))
    by_cases c : 5 ≤ zL z
    · rw [decide_eq_true c] at hP
      refine And.intro (fun cz => absurd cz (nI_nlt (b := 5) c (by omega))) (fun _ => ?_)
      exact And.intro rfl (hP)
    · rw [decide_eq_false c] at hP
      refine And.intro (fun _ => ?_) (fun cz => absurd (nI_lt (a := zL z) (b := 5) (by omega) (by decide)) cz)
      exact And.intro rfl (hP)
  · have e : k = 10 := kk 10 (by decide) (h0.trans (by decide))
    subst e
    have hP : Post (some (.int (nI (decide (6 ≤ zV z)).toNat))) h nx := hP
    refine Exists.intro _ (And.intro hr (Exists.intro _ (And.intro rfl ?_)))
    by_cases c : 6 ≤ zV z
    · rw [decide_eq_true c] at hP
      refine And.intro (fun cz => absurd cz (nI_nlt (b := 6) c (by omega))) (fun _ => ?_)
      exact And.intro rfl (hP)
    · rw [decide_eq_false c] at hP
      refine And.intro (fun _ => ?_) (fun cz => absurd (nI_lt (a := zV z) (b := 6) (by omega) (by decide)) cz)
      exact And.intro rfl (hP)
  · have e : k = 11 := kk 11 (by decide) (h0.trans (by decide))
    subst e
    exact And.intro rfl (hP)
  · have e : k = 12 := kk 12 (by decide) (h0.trans (by decide))
    subst e
    exact And.intro rfl (hP)
  · have e : k = 13 := kk 13 (by decide) (h0.trans (by decide))
    subst e
    exact And.intro rfl (hP)
  · have e : k = 14 := kk 14 (by decide) (h0.trans (by decide))
    subst e
    exact And.intro rfl (hP)
  · have e : k = 15 := kk 15 (by decide) (h0.trans (by decide))
    subst e
    exact And.intro rfl (hP)
  · have e : k = 16 := kk 16 (by decide) (h0.trans (by decide))
    subst e
    exact And.intro rfl (hP)
  · have e : k = 17 := kk 17 (by decide) (h0.trans (by decide))
    subst e
    have hP : Post (some (.int (nI (decide (4 ≤ zD z)).toNat))) h nx := hP
    refine Exists.intro _ (And.intro hr (Exists.intro _ (And.intro rfl ?_)))
    by_cases c : 4 ≤ zD z
    · rw [decide_eq_true c] at hP
      refine And.intro (fun cz => absurd cz (nI_nlt (b := 4) c (by omega))) (fun _ => ?_)
      exact And.intro rfl (hP)
    · rw [decide_eq_false c] at hP
      refine And.intro (fun _ => ?_) (fun cz => absurd (nI_lt (a := zD z) (b := 4) (by omega) (by decide)) cz)
      exact And.intro rfl (hP)
