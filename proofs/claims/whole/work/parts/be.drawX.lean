/-! x's drawing in the making: its small methods -/
set_option maxHeartbeats 8000000 in
theorem x_isClosed {l : Launch} {G : GG} {h : AH} {nx : Nat} {Post : Option Value → AH → Nat → Prop} {w b S k word v : Nat} {t : Bool} {gv gb gi wc wo gc go ge : Nat → Int32} (hX : XC G ∧ TX l G) (hw : h w = some (.inr (10, wiF b S))) (hR : wiR h b S gv gb gi wc wo gc go ge) (hk : k < S) (hS : S ≤ 400) (hv : gv k = nI v) (hv30 : v < 30) (hi : gi k = nI t.toNat) (hwd : word < 2 ^ 30) (hP : Post (some (.int (nI (word.testBit v ^^ t).toNat))) h nx) : Runs l G i_X10_isClosed 0 0 [.ref w, .int (nI k), .int (nI word)] h nx Post := by
  obtain ⟨e6, e7, e8, e9, e10, e0, e1, e2⟩ := hR
  have tb := nx_tb (a := word) (k := v) (by omega) (by omega)
  refine en_X10_isClosed hX [] 40 rfl ?_
  refine And.intro (fun cz => absurd cz (nI_pos (show k < 2 ^ 31 by omega))) (fun _ => ?_)
  refine Exists.intro _ (And.intro hw (Exists.intro _ (And.intro rfl ?_)))
  refine And.intro (fun cz => absurd cz (nI_ge hk (by omega))) (fun _ => ?_)
  refine Exists.intro _ (And.intro hw (Exists.intro _ (And.intro rfl ?_)))
  refine Exists.intro _ (Exists.intro _ (And.intro e6 (And.intro (vp_in_nI hk (by omega)) ?_)))
  rw [nI_clamp (show k < 2 ^ 31 by omega), hv]
  refine Exists.intro _ (And.intro hw (Exists.intro _ (And.intro rfl ?_)))
  refine Exists.intro _ (Exists.intro _ (And.intro e8 (And.intro (vp_in_nI hk (by omega)) ?_)))
  rw [nI_clamp (show k < 2 ^ 31 by omega), hi, tb]
  by_cases c : word.testBit v = t
  · rw [c, Bool.xor_self] at hP
    refine And.intro (fun _ => ?_) (fun cz => absurd (tN_inj.mpr c) cz)
    exact And.intro rfl (hP)
  · rw [show (word.testBit v ^^ t) = true from by cases hh : word.testBit v <;> cases t <;> first | rfl | exact absurd hh c] at hP
    refine And.intro (fun cz => absurd cz (fun z => c (tN_inj.mp z))) (fun _ => ?_)
    exact And.intro rfl (hP)
/-- a walk by a word: which contacts are closed -/
def pwW (vr : Nat → Nat) (iv : Nat → Bool) (word k : Nat) : Bool := word.testBit (vr k) ^^ iv k
set_option maxHeartbeats 8000000 in
theorem x_holds {l : Launch} {G : GG} {h : AH} {nx : Nat} {Post : Option Value → AH → Nat → Prop} {w b S word : Nat} {vr : Nat → Nat} {iv : Nat → Bool} {gv gb gi wc wo gc go ge : Nat → Int32} (hX : XC G ∧ TX l G) (hw : h w = some (.inr (10, wiF b S))) (hR : wiR h b S gv gb gi wc wo gc go ge) (hS : S ≤ 400) (hv : ∀ k, k < S → gv k = nI (vr k) ∧ vr k < 30 ∧ gi k = nI (iv k).toNat) (hwd : word < 2 ^ 30) (hP : Post (some (.int (nI (decide (wkP (pwW vr iv word) wc wo S S (nI 0) = -1)).toNat))) h nx) : Runs l G i_X10_holds 0 0 [.ref w, .int (nI 0), .int (nI word)] h nx Post := by
  obtain ⟨e6, e7, e8, e9, e10, e0, e1, e2⟩ := id hR
  have fin : ∀ c : Int32, decide (wkP (pwW vr iv word) wc wo S S (nI 0) = -1) = decide (c = -1) → Go l G 10 s_X10_holds 0 0 Post 57 [(3, .int c), (0, .ref w), (1, .int (nI 0)), (2, .int (nI word))] [] h nx 0 0 := by
    intro c hc
    rw [hc] at hP
    refine Go.of hX.2 ck_X10_holds [] 20 ?_
    by_cases c1 : c = -1
    · rw [decide_eq_true c1] at hP
      refine And.intro (fun cz => absurd (c1) cz) (fun _ => ?_)
      exact And.intro rfl (hP)
    · rw [decide_eq_false c1] at hP
      refine And.intro (fun _ => ?_) (fun cz => absurd cz (c1))
      exact And.intro rfl (hP)
  have loop : ∀ (f i : Nat) (c : Int32), i + f = S → wkP (pwW vr iv word) wc wo S S (nI 0) = wkP (pwW vr iv word) wc wo S f c → Go l G 10 s_X10_holds 0 0 Post 5 [(4, .int (nI i)), (3, .int c), (0, .ref w), (1, .int (nI 0)), (2, .int (nI word))] [] h nx 0 0 := by
    intro f
    induction f with
    | zero =>
      intro i c hi hc
      refine Go.of hX.2 ck_X10_holds [57] 20 ?_
      refine Exists.intro _ (And.intro hw (Exists.intro _ (And.intro rfl ?_)))
      refine And.intro (fun _ => ?_) (fun cz => absurd (nI_le (a := S) (b := i) (by omega) (by omega)) cz)
      exact go_loc (lv' := [(3, .int c), (0, .ref w), (1, .int (nI 0)), (2, .int (nI word))]) ⟨rfl, rfl, rfl, rfl, trivial⟩ (fin c (by rw [hc]; rfl))
    | succ f ih =>
      intro i c hi hc
      refine Go.of hX.2 ck_X10_holds [5, 57] 60 ?_
      refine Exists.intro _ (And.intro hw (Exists.intro _ (And.intro rfl ?_)))
      refine And.intro (fun cz => absurd cz (nI_ge (a := i) (b := S) (by omega) (by omega))) (fun _ => ?_)
      by_cases c1 : c < 0
      · rw [show wkP (pwW vr iv word) wc wo S (f + 1) c = c from if_pos (Or.inl c1)] at hc
        refine And.intro (fun _ => ?_) (fun cz => absurd (c1) cz)
        exact go_loc (lv' := [(3, .int c), (0, .ref w), (1, .int (nI 0)), (2, .int (nI word))]) ⟨rfl, rfl, rfl, rfl, trivial⟩ (fin c (by rw [hc]))
      · refine And.intro (fun cz => absurd cz (c1)) (fun _ => ?_)
        refine Exists.intro _ (And.intro hw (Exists.intro _ (And.intro rfl ?_)))
        by_cases c2 : nI S ≤ c
        · rw [show wkP (pwW vr iv word) wc wo S (f + 1) c = c from if_pos (Or.inr c2)] at hc
          refine And.intro (fun _ => ?_) (fun cz => absurd (c2) cz)
          exact go_loc (lv' := [(3, .int c), (0, .ref w), (1, .int (nI 0)), (2, .int (nI word))]) ⟨rfl, rfl, rfl, rfl, trivial⟩ (fin c (by rw [hc]))
        · refine And.intro (fun cz => absurd cz (c2)) (fun _ => ?_)
          have hst : wkP (pwW vr iv word) wc wo S (f + 1) c = wkP (pwW vr iv word) wc wo S f (if pwW vr iv word c.toNatClampNeg = true then wc c.toNatClampNeg else wo c.toNatClampNeg) := if_neg (fun z => z.elim c1 c2)
          rw [hst] at hc
          obtain ⟨k, hk, rfl⟩ := (inR_c (x := c) (n := S) (by omega)).mp (by
            unfold inR
            rw [decide_eq_true (Int32.not_lt.mp c1), decide_eq_true (Int32.not_le.mp c2)]
            rfl)
          rw [nI_clamp (by omega)] at hc
          obtain ⟨v1, v2, v3⟩ := hv k hk
          refine Exists.intro _ (And.intro hw (Exists.intro 0 (Exists.intro 0 (And.intro (Nat.le_refl _) (And.intro (Nat.le_refl _) (x_isClosed hX hw hR hk hS v1 v2 v3 hwd ?_))))))
          cases hp : pwW vr iv word k with
          | true =>
            rw [hp, if_pos rfl] at hc
            unfold pwW at hp
            rw [hp]
            refine And.intro (fun cz => by first | exact absurd cz (by decide) | exact absurd (by decide) cz) (fun _ => ?_)
            refine Exists.intro _ (And.intro hw (Exists.intro _ (And.intro rfl ?_)))
            refine Exists.intro _ (Exists.intro _ (And.intro e9 (And.intro (vp_in_nI hk (by omega)) ?_)))
            rw [nI_clamp (show k < 2 ^ 31 by omega)]
            refine go_loc (lv' := [(4, .int (nI i + 1)), (3, .int (wc k)), (0, .ref w), (1, .int (nI 0)), (2, .int (nI word))]) ⟨rfl, rfl, rfl, rfl, rfl, trivial⟩ ?_
            rw [← nI_succ]
            exact ih (i + 1) (wc k) (by omega) hc
          | false =>
            rw [hp, if_neg (by decide)] at hc
            unfold pwW at hp
            rw [hp]
            refine And.intro (fun _ => ?_) (fun cz => by first | exact absurd cz (by decide) | exact absurd (by decide) cz)
            refine Exists.intro _ (And.intro hw (Exists.intro _ (And.intro rfl ?_)))
            refine Exists.intro _ (Exists.intro _ (And.intro e10 (And.intro (vp_in_nI hk (by omega)) ?_)))
            rw [nI_clamp (show k < 2 ^ 31 by omega)]
            refine go_loc (lv' := [(4, .int (nI i + 1)), (3, .int (wo k)), (0, .ref w), (1, .int (nI 0)), (2, .int (nI word))]) ⟨rfl, rfl, rfl, rfl, rfl, trivial⟩ ?_
            rw [← nI_succ]
            exact ih (i + 1) (wo k) (by omega) hc
  refine en_X10_holds hX [5] 20 rfl ?_
  exact go_loc (lv' := [(4, .int (nI 0)), (3, .int (nI 0)), (0, .ref w), (1, .int (nI 0)), (2, .int (nI word))]) ⟨rfl, rfl, rfl, rfl, rfl, trivial⟩ (loop S 0 (nI 0) (Nat.zero_add _) rfl)
/-- a drawing's fields while it is made -/
def dwF (d I R L K V cc fc : Nat) : List Value := [.int (nI I), .int (nI R), .int (nI L), .int (nI K), .int (nI V), .ref (d + 1), .ref (d + 2), .ref (d + 3), .ref (d + 4), .ref (d + 5), .int (nI cc), .ref (d + 6), .ref (d + 18), .ref (d + 19), .int (nI fc), .ref (d + 27), .ref (d + 28), .ref (d + 20)]
/-- which item a told thing is -/
def itm (s n : Nat) : Nat := if s = 6 then n else if s = 8 ∨ s = 9 then 6 + n else 11 + n
set_option maxHeartbeats 8000000 in
theorem x_addTold {l : Launch} {G : GG} {h : AH} {nx : Nat} {Post : Option Value → AH → Nat → Prop} {d s n I R L K V cc fc : Nat} {v : Int64} {g1 : Nat → Int64} {g2 : Nat → Int32} (hX : XC G ∧ TX l G) (hd : h d = some (.inr (0, dwF d I R L K V cc fc))) (h1 : h (d + 1) = some (.inl (1, 16, .inr (.inl g1)))) (h2 : h (d + 2) = some (.inl (0, 16, .inl g2))) (hs : s < 19) (hn : n < 6) (hit : itm s n < 16) (hP : ∀ h3 : AH, (∀ x, x ≠ d → x ≠ d + 1 → x ≠ d + 2 → h3 x = h x) → h3 d = some (.inr (0, dwF d (if s = 6 then I else if s = 8 ∨ s = 9 then I else I + 1) (if s = 6 then R + 1 else R) (if s = 6 then L else if s = 8 ∨ s = 9 then L + 1 else L) K V cc fc)) → h3 (d + 1) = some (.inl (1, 16, .inr (.inl (vp_updL g1 (itm s n) v)))) → h3 (d + 2) = some (.inl (0, 16, .inl (upd g2 (itm s n) (nI (if s = 6 then 0 else s))))) → Post none h3 nx) : Runs l G i_X0_addTold 0 0 [.ref d, .int (nI s), .int (nI n), .long v] h nx Post := by
  have sne : ∀ j, j < 100 → s ≠ j → ¬ nI s = nI j := fun j hj z e => z ((nI_eq (by omega) (by omega)).mp e)
  have at80 : ∀ (h3 : AH) (I' R' L' : Nat), (∀ x, x ≠ d → h3 x = h x) → h3 d = some (.inr (0, dwF d I' R' L' K V cc fc)) → I' = (if s = 6 then I else if s = 8 ∨ s = 9 then I else I + 1) → R' = (if s = 6 then R + 1 else R) → L' = (if s = 6 then L else if s = 8 ∨ s = 9 then L + 1 else L) → Go l G 0 s_X0_addTold 0 0 Post 80 [(5, .int (nI (itm s n))), (0, .ref d), (1, .int (nI s)), (2, .int (nI n)), (3, .long v)] [] h3 nx 0 0 := by
    intro h3 I' R' L' f e0 e1 e2 e3
    rw [← e1, ← e2, ← e3] at hP
    have k1 := (f (d + 1) (by omega)).trans h1
    have k2 := (f (d + 2) (by omega)).trans h2
    refine Go.of hX.2 ck_X0_addTold [] 60 ?_
    refine And.intro (fun cz => absurd cz (nI_ge (a := itm s n) (b := 16) hit (by decide))) (fun _ => ?_)
    refine Exists.intro _ (And.intro e0 (Exists.intro _ (And.intro rfl ?_)))
    refine Exists.intro _ (Exists.intro _ (And.intro k1 (And.intro (vp_in_nI hit (by decide)) ?_)))
    rw [nI_clamp (show itm s n < 2 ^ 31 by omega)]
    refine Exists.intro _ (And.intro ((uph_ne (by omega)).trans e0) (Exists.intro _ (And.intro rfl ?_)))
    by_cases c6 : s = 6
    · rw [if_pos c6] at hP
      refine And.intro (fun cz => absurd (show nI s = nI 6 from by rw [c6]) cz) (fun _ => ?_)
      refine Exists.intro _ (Exists.intro _ (And.intro ((uph_ne (by omega)).trans k2) (And.intro (vp_in_nI hit (by decide)) ?_)))
      rw [nI_clamp (show itm s n < 2 ^ 31 by omega)]
      exact hP _ (fun x a1 a2 a3 => (uph_ne a3).trans ((uph_ne a2).trans (f x a1))) ((uph_ne (by omega)).trans ((uph_ne (by omega)).trans e0)) ((uph_ne (by omega)).trans uph_eq) uph_eq
    · rw [if_neg c6] at hP
      refine And.intro (fun _ => ?_) (fun cz => absurd cz (sne 6 (by decide) c6))
      refine Exists.intro _ (Exists.intro _ (And.intro ((uph_ne (by omega)).trans k2) (And.intro (vp_in_nI hit (by decide)) ?_)))
      rw [nI_clamp (show itm s n < 2 ^ 31 by omega)]
      exact hP _ (fun x a1 a2 a3 => (uph_ne a3).trans ((uph_ne a2).trans (f x a1))) ((uph_ne (by omega)).trans ((uph_ne (by omega)).trans e0)) ((uph_ne (by omega)).trans uph_eq) uph_eq
  have lampC : s ≠ 6 → (s = 8 ∨ s = 9) → Go l G 0 s_X0_addTold 0 0 Post 45 [(5, .int (nI n)), (0, .ref d), (1, .int (nI s)), (2, .int (nI n)), (3, .long v)] [] h nx 0 0 := by
    intro c6 c89
    have e : itm s n = 6 + n := by unfold itm; rw [if_neg c6, if_pos c89]
    have a80 := at80 (uph h d (.inr (0, dwF d I R (L + 1) K V cc fc))) I R (L + 1) (fun x hx => uph_ne hx) uph_eq (by rw [if_neg c6, if_pos c89]) (by rw [if_neg c6]) (by rw [if_neg c6, if_pos c89])
    rw [e, ← nI_add] at a80
    unfold dwF at a80
    rw [nI_succ L] at a80
    refine Go.of hX.2 ck_X0_addTold [80] 30 ?_
    refine Exists.intro _ (And.intro hd (Exists.intro _ (And.intro rfl ?_)))
    refine Exists.intro _ (And.intro hd (And.intro (Nat.le_of_ble_eq_true rfl) (And.intro rfl (And.intro rfl ?_))))
    exact go_loc (lv' := [(5, .int (nI 6 + nI n)), (0, .ref d), (1, .int (nI s)), (2, .int (nI n)), (3, .long v)]) ⟨rfl, rfl, rfl, rfl, rfl, trivial⟩ (a80)
  refine en_X0_addTold hX [45, 80] 60 rfl ?_
  refine And.intro (fun cz => absurd cz (nI_pos (show n < 2 ^ 31 by omega))) (fun _ => ?_)
  refine And.intro (fun _ => ?_) (fun cz => absurd (nI_lt (a := n) (b := 6) hn (by decide)) cz)
  by_cases c6 : s = 6
  · have e : itm s n = n := by unfold itm; rw [if_pos c6]
    have a80 := at80 (uph h d (.inr (0, dwF d I (R + 1) L K V cc fc))) I (R + 1) L (fun x hx => uph_ne hx) uph_eq (by rw [if_pos c6]) (by rw [if_pos c6]) (by rw [if_pos c6])
    rw [e] at a80
    unfold dwF at a80
    rw [nI_succ R] at a80
    refine And.intro (fun cz => absurd (show nI s = nI 6 from by rw [c6]) cz) (fun _ => ?_)
    refine Exists.intro _ (And.intro hd (Exists.intro _ (And.intro rfl ?_)))
    refine Exists.intro _ (And.intro hd (And.intro (Nat.le_of_ble_eq_true rfl) (And.intro rfl (And.intro rfl ?_))))
    exact go_loc (lv' := [(5, .int (nI n)), (0, .ref d), (1, .int (nI s)), (2, .int (nI n)), (3, .long v)]) ⟨rfl, rfl, rfl, rfl, rfl, trivial⟩ (a80)
  · refine And.intro (fun _ => ?_) (fun cz => absurd cz (sne 6 (by decide) c6))
    by_cases c8 : s = 8
    · refine And.intro (fun _ => ?_) (fun cz => absurd (show nI s = nI 8 from by rw [c8]) cz)
      exact go_loc (lv' := [(5, .int (nI n)), (0, .ref d), (1, .int (nI s)), (2, .int (nI n)), (3, .long v)]) ⟨rfl, rfl, rfl, rfl, rfl, trivial⟩ (lampC c6 (Or.inl c8))
    · refine And.intro (fun cz => absurd cz (sne 8 (by decide) c8)) (fun _ => ?_)
      by_cases c9 : s = 9
      · refine And.intro (fun cz => absurd (show nI s = nI 9 from by rw [c9]) cz) (fun _ => ?_)
        exact go_loc (lv' := [(5, .int (nI n)), (0, .ref d), (1, .int (nI s)), (2, .int (nI n)), (3, .long v)]) ⟨rfl, rfl, rfl, rfl, rfl, trivial⟩ (lampC c6 (Or.inr c9))
      · have n89 : ¬ (s = 8 ∨ s = 9) := fun z => z.elim c8 c9
        have e : itm s n = 11 + n := by unfold itm; rw [if_neg c6, if_neg n89]
        have a80 := at80 (uph h d (.inr (0, dwF d (I + 1) R L K V cc fc))) (I + 1) R L (fun x hx => uph_ne hx) uph_eq (by rw [if_neg c6, if_neg n89]) (by rw [if_neg c6]) (by rw [if_neg c6, if_neg n89])
        rw [e, ← nI_add] at a80
        unfold dwF at a80
        rw [nI_succ I] at a80
        refine And.intro (fun _ => ?_) (fun cz => absurd cz (sne 9 (by decide) c9))
        refine Exists.intro _ (And.intro hd (Exists.intro _ (And.intro rfl ?_)))
        refine Exists.intro _ (And.intro hd (And.intro (Nat.le_of_ble_eq_true rfl) (And.intro rfl (And.intro rfl ?_))))
        exact go_loc (lv' := [(5, .int (nI 11 + nI n)), (0, .ref d), (1, .int (nI s)), (2, .int (nI n)), (3, .long v)]) ⟨rfl, rfl, rfl, rfl, rfl, trivial⟩ (a80)
set_option maxHeartbeats 8000000 in
theorem x_setSlow {l : Launch} {G : GG} {h : AH} {nx : Nat} {Post : Option Value → AH → Nat → Prop} {d n v : Nat} {fs : List Value} {g2 : Nat → Int32} (hX : XC G ∧ TX l G) (hd : h d = some (.inr (0, fs))) (f6 : fs[6]? = some (.ref (d + 2))) (h2 : h (d + 2) = some (.inl (0, 16, .inl g2))) (hn : n < 6) (hP : Post none (uph h (d + 2) (.inl (0, 16, .inl (upd g2 n (nI v))))) nx) : Runs l G i_X0_setSlow 0 0 [.ref d, .int (nI n), .int (nI v)] h nx Post := by
  refine en_X0_setSlow hX [] 30 rfl ?_
  refine And.intro (fun cz => absurd cz (nI_pos (show n < 2 ^ 31 by omega))) (fun _ => ?_)
  refine And.intro (fun cz => absurd cz (nI_ge (a := n) (b := 6) hn (by decide))) (fun _ => ?_)
  refine Exists.intro _ (And.intro hd (Exists.intro _ (And.intro f6 ?_)))
  refine Exists.intro _ (Exists.intro _ (And.intro h2 (And.intro (vp_in_nI (show n < 16 by omega) (by decide)) ?_)))
  rw [nI_clamp (show n < 2 ^ 31 by omega)]
  exact hP
/-- the bits of tracks in a word -/
def trB (st : Nat → Nat) (m : Nat) : Nat := bsum (fun b => decide (6 ≤ b) && (decide (b < 6 + m) && decide (st (b - 6) = 5))) 11
theorem trB_s {st : Nat → Nat} {m : Nat} (hm : m < 5) : trB st (m + 1) = if st m = 5 then trB st m ||| 2 ^ (6 + m) else trB st m := by
  refine Nat.eq_of_testBit_eq (fun i => ?_)
  have e : (trB st (m + 1)).testBit i = ((trB st m).testBit i || (decide (i = 6 + m) && decide (st m = 5))) := by
    unfold trB
    rw [bsum_tb, bsum_tb]
    by_cases c : i = 6 + m
    · subst c
      rw [decide_eq_true (show 6 + m < 11 by omega), decide_eq_true (show 6 ≤ 6 + m by omega), decide_eq_true (show 6 + m < 6 + (m + 1) by omega), decide_eq_false (show ¬ 6 + m < 6 + m by omega), Nat.add_sub_cancel_left, decide_eq_true (p := 6 + m = 6 + m) rfl]
      simp
    · rw [decide_eq_false c]
      by_cases c2 : i < 6 + m
      · rw [decide_eq_true c2, decide_eq_true (show i < 6 + (m + 1) by omega)]
        simp
      · rw [decide_eq_false c2, decide_eq_false (show ¬ i < 6 + (m + 1) by omega)]
        simp
  rw [e]
  split
  · next h5 => rw [Nat.testBit_or, Nat.testBit_two_pow, decide_eq_true h5, Bool.and_true]; congr 1; exact decide_eq_decide.mpr ⟨fun z => z.symm, fun z => z.symm⟩
  · next h5 => rw [decide_eq_false h5, Bool.and_false, Bool.or_false]
set_option maxHeartbeats 8000000 in
theorem x_trackBits {l : Launch} {G : GG} {h : AH} {nx : Nat} {Post : Option Value → AH → Nat → Prop} {d : Nat} {st : Nat → Nat} {fs : List Value} {g2 : Nat → Int32} (hX : XC G ∧ TX l G) (hd : h d = some (.inr (0, fs))) (f6 : fs[6]? = some (.ref (d + 2))) (h2 : h (d + 2) = some (.inl (0, 16, .inl g2))) (hs : ∀ i, i < 5 → g2 (11 + i) = nI (st i) ∧ st i < 19) (hP : Post (some (.int (nI (trB st 5)))) h nx) : Runs l G i_X0_trackBits 0 0 [.ref d] h nx Post := by
  have loop : ∀ (r i : Nat), i + r = 5 → Go l G 0 s_X0_trackBits 0 0 Post 4 [(2, .int (nI i)), (1, .int (nI (trB st i))), (0, .ref d)] [] h nx 0 0 := by
    intro r
    induction r with
    | zero =>
      intro i hi
      have e : i = 5 := by omega
      subst e
      refine Go.of hX.2 ck_X0_trackBits [] 20 ?_
      refine And.intro (fun _ => ?_) (fun cz => by first | exact absurd cz (by decide) | exact absurd (by decide) cz)
      exact And.intro rfl (hP)
    | succ r ih =>
      intro i hi
      have nx2 := ih (i + 1) (by omega)
      rw [trB_s (by omega), nI_succ i] at nx2
      obtain ⟨p1, p2⟩ := hs i (by omega)
      refine Go.of hX.2 ck_X0_trackBits [4, 31] 60 ?_
      refine And.intro (fun cz => absurd cz (nI_ge (a := i) (b := 5) (by omega) (by decide))) (fun _ => ?_)
      refine Exists.intro _ (And.intro hd (Exists.intro _ (And.intro f6 ?_)))
      refine Exists.intro _ (Exists.intro _ (And.intro h2 (And.intro (by rw [show (11 : Int32) + nI i = nI (11 + i) from nI_add 11 i]; exact vp_in_nI (show 11 + i < 16 by omega) (by decide)) ?_)))
      rw [show (11 : Int32) + nI i = nI (11 + i) from nI_add 11 i, nI_clamp (show 11 + i < 2 ^ 31 by omega), p1]
      by_cases c : st i = 5
      · rw [if_pos c] at nx2
        refine And.intro (fun cz => absurd (show nI (st i) = nI 5 from by rw [c]) cz) (fun _ => ?_)
        refine go_loc (lv' := [(2, .int (nI i)), (1, .int (nI (trB st i) ||| ((1 : Int32) <<< ((nI 6 + nI i) &&& 31)))), (0, .ref d)]) ⟨rfl, rfl, rfl, trivial⟩ ?_
        rw [nI_add, nx_pow (by omega), nx_or]
        refine Go.of hX.2 ck_X0_trackBits [4] 5 ?_
        exact go_loc (lv' := [(2, .int (nI i + 1)), (1, .int (nI (trB st i ||| 2 ^ (6 + i)))), (0, .ref d)]) ⟨rfl, rfl, rfl, trivial⟩ (nx2)
      · rw [if_neg c] at nx2
        refine And.intro (fun _ => ?_) (fun cz => absurd cz (fun z => c ((nI_eq (by omega) (by decide)).mp (show nI (st i) = nI 5 from z))))
        refine go_loc (lv' := [(2, .int (nI i)), (1, .int (nI (trB st i))), (0, .ref d)]) ⟨rfl, rfl, rfl, trivial⟩ ?_
        refine Go.of hX.2 ck_X0_trackBits [4] 5 ?_
        exact go_loc (lv' := [(2, .int (nI i + 1)), (1, .int (nI (trB st i))), (0, .ref d)]) ⟨rfl, rfl, rfl, trivial⟩ (nx2)
  have e0 : trB st 0 = 0 := Nat.eq_of_testBit_eq (fun i => by
    unfold trB
    rw [bsum_tb, Nat.zero_testBit]
    by_cases c : 6 ≤ i
    · rw [decide_eq_false (show ¬ i < 6 + 0 by omega)]; simp
    · rw [decide_eq_false c]; simp)
  have l0 := loop 5 0 (Nat.zero_add _)
  rw [e0] at l0
  refine en_X0_trackBits hX [4] 20 rfl ?_
  exact go_loc (lv' := [(2, .int (nI 0)), (1, .int (nI 0)), (0, .ref d)]) ⟨rfl, rfl, rfl, trivial⟩ (l0)
set_option maxHeartbeats 8000000 in
theorem x_addFlaw {l : Launch} {G : GG} {h : AH} {nx : Nat} {Post : Option Value → AH → Nat → Prop} {d f I R L K V cc fc : Nat} {g : Nat → Int32} (hX : XC G ∧ TX l G) (hd : h d = some (.inr (0, dwF d I R L K V cc fc))) (h9 : h (d + 19) = some (.inl (0, 132, .inl g))) (hfc : fc < 132) (hP : Post none (uph (uph h (d + 19) (.inl (0, 132, .inl (upd g fc (nI f))))) d (.inr (0, dwF d I R L K V cc (fc + 1)))) nx) : Runs l G i_X0_addFlaw 0 0 [.ref d, .int (nI f)] h nx Post := by
  unfold dwF at hP
  rw [nI_succ fc] at hP
  refine en_X0_addFlaw hX [] 40 rfl ?_
  refine Exists.intro _ (And.intro hd (Exists.intro _ (And.intro rfl ?_)))
  refine And.intro (fun cz => absurd cz (nI_ge (a := fc) (b := 132) hfc (by decide))) (fun _ => ?_)
  refine Exists.intro _ (And.intro hd (Exists.intro _ (And.intro rfl ?_)))
  refine Exists.intro _ (And.intro hd (Exists.intro _ (And.intro rfl ?_)))
  refine Exists.intro _ (Exists.intro _ (And.intro h9 (And.intro (vp_in_nI hfc (by decide)) ?_)))
  rw [nI_clamp (show fc < 2 ^ 31 by omega)]
  refine Exists.intro _ (And.intro ((uph_ne (by omega)).trans hd) (Exists.intro _ (And.intro rfl ?_)))
  refine Exists.intro _ (And.intro ((uph_ne (by omega)).trans hd) (And.intro (Nat.le_of_ble_eq_true rfl) (And.intro rfl (And.intro rfl ?_))))
  exact hP
/-- where a circuit ends -/
def cEd (kd : Nat → Nat) (N i : Nat) : Nat := i + cLn kd (N - i) i
set_option maxHeartbeats 8000000 in
theorem x_circuitEnd {l : Launch} {G : GG} {h : AH} {nx : Nat} {Post : Option Value → AH → Nat → Prop} {r i N : Nat} {pl : Int32} {z : ZT} {kd : Nat → Nat} {g4 : Nat → Int32} (hX : XC G ∧ TX l G) (hr : h r = some (.inr (6, rdO r N pl z))) (h4 : h (r + 4) = some (.inl (0, 400, .inl g4))) (hg : ∀ j, j < N → g4 j = nI (kd j)) (hkd : ∀ i, kd i < 19) (hN : N ≤ 400) (hi : i ≤ N) (hP : Post (some (.int (nI (cEd kd N i)))) h nx) : Runs l G i_X6_circuitEnd 0 0 [.ref r, .int (nI i)] h nx Post := by
  have loop : ∀ (f j : Nat), j + f = N → cEd kd N j = cEd kd N i → Go l G 6 s_X6_circuitEnd 0 0 Post 2 [(2, .int (nI j)), (0, .ref r), (1, .int (nI i))] [] h nx 0 0 := by
    intro f
    induction f with
    | zero =>
      intro j hj he
      have ej : j = N := by omega
      have : cEd kd N j = j := by unfold cEd; rw [show N - j = 0 by omega]; rfl
      rw [← he, this] at hP
      refine Go.of hX.2 ck_X6_circuitEnd [] 20 ?_
      refine Exists.intro _ (And.intro hr (Exists.intro _ (And.intro rfl ?_)))
      refine And.intro (fun _ => ?_) (fun cz => absurd (nI_le (a := N) (b := j) (by omega) (by omega)) cz)
      exact And.intro rfl (hP)
    | succ f ih =>
      intro j hj he
      refine Go.of hX.2 ck_X6_circuitEnd [2] 40 ?_
      refine Exists.intro _ (And.intro hr (Exists.intro _ (And.intro rfl ?_)))
      refine And.intro (fun cz => absurd cz (nI_ge (a := j) (b := N) (by omega) (by omega))) (fun _ => ?_)
      refine And.intro (fun cz => absurd cz (nI_ge (a := j) (b := 400) (by omega) (by decide))) (fun _ => ?_)
      refine Exists.intro _ (And.intro hr (Exists.intro _ (And.intro rfl ?_)))
      refine Exists.intro _ (Exists.intro _ (And.intro h4 (And.intro (vp_in_nI (show j < 400 by omega) (by decide)) ?_)))
      rw [nI_clamp (show j < 2 ^ 31 by omega), hg j (by omega)]
      have hkj := hkd j
      have el : cLn kd (N - j) j = if kd j = 12 then 0 else cLn kd (N - (j + 1)) (j + 1) + 1 := by
        rw [show N - j = (N - (j + 1)) + 1 by omega]
        rfl
      by_cases c : kd j = 12
      · have : cEd kd N j = j := by unfold cEd; rw [el, if_pos c]; rfl
        rw [← he, this] at hP
        refine And.intro (fun _ => ?_) (fun cz => absurd (show nI (kd j) = nI 12 from by rw [c]) cz)
        exact And.intro rfl (hP)
      · refine And.intro (fun cz => absurd cz (fun z => c ((nI_eq (by omega) (by decide)).mp (show nI (kd j) = nI 12 from z)))) (fun _ => ?_)
        refine go_loc (lv' := [(2, .int (nI j + 1)), (0, .ref r), (1, .int (nI i))]) ⟨rfl, rfl, rfl, trivial⟩ ?_
        rw [← nI_succ]
        refine ih (j + 1) (by omega) ?_
        rw [← he]
        unfold cEd
        rw [el, if_neg c]
        omega
  refine en_X6_circuitEnd hX [2] 10 rfl ?_
  exact go_loc (lv' := [(2, .int (nI i)), (0, .ref r), (1, .int (nI i))]) ⟨rfl, rfl, rfl, trivial⟩ (loop (N - i) i (by omega) rfl)
