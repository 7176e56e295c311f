/-! the relays that may change next -/
/-- of those that are to drop among the first so many: the least slowness (10: none), and those that have it -/
def lsF (dr : Nat → Bool) (sl : Nat → Nat) : Nat → Nat × Nat
  | 0 => (10, 0)
  | j + 1 => if dr j = true then (if sl j < (lsF dr sl j).1 then (sl j, 2 ^ j) else if sl j = (lsF dr sl j).1 then ((lsF dr sl j).1, (lsF dr sl j).2 ||| 2 ^ j) else lsF dr sl j) else lsF dr sl j
def zF (p : Nat × Nat) : Nat := if p.1 = 0 then p.2 else 0
def dueN (nR sh st up : Nat) : Nat := ((up ^^^ sh) &&& (2 ^ nR - 1)) ^^^ (((up ^^^ sh) &&& (2 ^ nR - 1)) &&& st)
def qkN (nR sh st up : Nat) : Nat := dueN nR sh st up ^^^ (dueN nR sh st up &&& up)
def drB (nR sh st up : Nat) (r : Nat) : Bool := (dueN nR sh st up &&& up).testBit r
/-- the relays that may change next (a set) -/
def mvF (nR : Nat) (sl : Nat → Nat) (sh st up : Nat) : Nat :=
  if qkN nR sh st up ||| zF (lsF (drB nR sh st up) sl nR) ≠ 0 then qkN nR sh st up ||| zF (lsF (drB nR sh st up) sl nR) else (lsF (drB nR sh st up) sl nR).2
theorem lsF_1 (dr : Nat → Bool) (sl : Nat → Nat) (n : Nat) (h : ∀ r, r < n → sl r < 10) : ∀ j, j ≤ n → (lsF dr sl j).1 ≤ 10 ∧ (lsF dr sl j).2 < 2 ^ j
  | 0, _ => ⟨Nat.le_refl _, by show 0 < 2 ^ 0; decide⟩
  | j + 1, hj => by
    have ih := lsF_1 dr sl n h j (by omega)
    have hs := h j (by omega)
    have hp : 2 ^ j < 2 ^ (j + 1) := Nat.pow_lt_pow_right (by decide) (Nat.lt_succ_self j)
    unfold lsF
    split
    · split
      · exact ⟨by show sl j ≤ 10; omega, hp⟩
      · split
        · exact ⟨ih.1, Nat.or_lt_two_pow (Nat.lt_trans ih.2 hp) hp⟩
        · exact ⟨ih.1, Nat.lt_trans ih.2 hp⟩
    · exact ⟨ih.1, Nat.lt_trans ih.2 hp⟩
theorem zF_no {dr : Nat → Bool} {sl : Nat → Nat} {j : Nat} (h : dr j = false) : lsF dr sl (j + 1) = lsF dr sl j := if_neg (by rw [h]; decide)
theorem zF_step {dr : Nat → Bool} {sl : Nat → Nat} {j : Nat} (h : dr j = true) : zF (lsF dr sl (j + 1)) = if sl j = 0 then zF (lsF dr sl j) ||| 2 ^ j else zF (lsF dr sl j) := by
  have e : lsF dr sl (j + 1) = if sl j < (lsF dr sl j).1 then (sl j, 2 ^ j) else if sl j = (lsF dr sl j).1 then ((lsF dr sl j).1, (lsF dr sl j).2 ||| 2 ^ j) else lsF dr sl j := if_pos h
  rw [e]
  generalize lsF dr sl j = p
  obtain ⟨a, b⟩ := p
  generalize sl j = s
  unfold zF
  rcases Nat.lt_trichotomy s a with h2 | h2 | h2
  · have h3 : a ≠ 0 := by omega
    by_cases h0 : s = 0
    · simp [h2, h0, h3, Nat.pos_of_ne_zero h3]
    · simp [h2, h0, h3]
  · subst h2
    by_cases h0 : s = 0
    · simp [h0]
    · simp [h0]
  · have h0 : s ≠ 0 := by omega
    have h3 : ¬ s < a := by omega
    have h4 : ¬ s = a := by omega
    simp [h0, h3, h4]
set_option maxHeartbeats 4000000 in
theorem c_allowed {l : Launch} {G : GG} {h : AH} {nx : Nat} {Post : Option Value → AH → Nat → Prop} {o q64 q24 q25 d i up st sh nR : Nat} {sl : Nat → Nat} {gs gR gw : Nat → Int32} {fs : List Value} (hX : XC G ∧ TX l G) (ho : h o = some (.inr (12, fs))) (f64 : fs[64]? = some (.ref q64)) (f24 : fs[24]? = some (.ref q24)) (f25 : fs[25]? = some (.ref q25)) (h64 : h q64 = some (.inl (0, 4096, .inl gs))) (h24 : h q24 = some (.inl (0, 5, .inl gR))) (h25 : h q25 = some (.inl (0, 30, .inl gw))) (hd : d < 5) (hi : i + up < 4096) (hup : up < 64) (hst : st < 2 ^ 31) (hsh : sh < 2 ^ 31) (es : gs (i + up) = nI sh) (eR : gR d = nI nR) (hR6 : nR ≤ 6) (ew : ∀ r, r < nR → gw (6 * d + r) = nI (sl r) ∧ sl r < 10) (hP : Post (some (.int (nI (mvF nR sl sh st up)))) h nx) : Runs l G i_X12_allowed 0 0 [.ref o, .int (nI d), .int (nI i), .int (nI up), .int (nI st)] h nx Post := by
  have hdu : dueN nR sh st up < 2 ^ 31 := by
    apply Nat.lt_pow_two_of_testBit
    intro j hj
    unfold dueN
    simp [Nat.testBit_xor, Nat.testBit_and, tb_lt (k := 31) (show up < 2 ^ 31 by omega) hj, tb_lt (k := 31) hsh hj]
  have hdp : dueN nR sh st up &&& up < 2 ^ 31 := Nat.lt_of_le_of_lt Nat.and_le_right (by omega)
  have loop : ∀ (k j : Nat), j + k = nR → Go l G 12 s_X12_allowed 0 0 Post 46 [(9, .int (nI j)), (8, .int (nI ((lsF (drB nR sh st up) sl (j))).2)), (7, .int (nI ((lsF (drB nR sh st up) sl (j))).1)), (6, .int (nI (qkN nR sh st up ||| zF (lsF (drB nR sh st up) sl (j))))), (5, .int (nI (dueN nR sh st up))), (0, .ref o), (1, .int (nI d)), (2, .int (nI i)), (3, .int (nI up)), (4, .int (nI st))] [] h nx 0 0 := by
    intro k
    induction k with
    | zero =>
      intro j hj
      have ej : nR = j := by omega
      subst ej
      refine Go.of hX.2 ck_X12_allowed [] 40 ?_
      refine Exists.intro _ (And.intro ho (Exists.intro _ (And.intro f24 ?_)))
      refine Exists.intro _ (Exists.intro _ (And.intro h24 (And.intro (vp_in_nI hd (by decide)) ?_)))
      rw [nI_clamp (by omega), eR]
      refine And.intro (fun _ => ?_) (fun cz => absurd (nI_le (Nat.le_refl _) (by omega)) cz)
      have hz2 := lsF_1 (drB nR sh st up) sl nR (fun r hr => (ew r hr).2) nR (Nat.le_refl _)
      have hqz : qkN nR sh st up ||| zF (lsF (drB nR sh st up) sl nR) < 2 ^ 31 := by
        apply Nat.or_lt_two_pow
        · unfold qkN
          apply Nat.xor_lt_two_pow hdu
          exact Nat.lt_of_le_of_lt Nat.and_le_left hdu
        · unfold zF
          split
          · exact Nat.lt_of_lt_of_le hz2.2 (Nat.pow_le_pow_right (by decide) (by omega))
          · decide
      unfold mvF at hP
      refine And.intro (fun c1 => ?_) (fun c1 => ?_)
      · have hq0 : qkN nR sh st up ||| zF (lsF (drB nR sh st up) sl nR) = 0 := (nI_eq hqz (by decide)).mp (show nI _ = nI 0 from c1)
        rw [if_neg (fun z => z hq0)] at hP
        exact And.intro rfl hP
      · rw [if_pos (fun z => c1 (by rw [z]; rfl))] at hP
        exact And.intro rfl hP
    | succ k ih =>
      intro j hj
      have hjR : j < nR := by omega
      obtain ⟨w1, w2⟩ := ew j hjR
      refine Go.of hX.2 ck_X12_allowed [46] 120 ?_
      refine Exists.intro _ (And.intro ho (Exists.intro _ (And.intro f24 ?_)))
      refine Exists.intro _ (Exists.intro _ (And.intro h24 (And.intro (vp_in_nI hd (by decide)) ?_)))
      rw [nI_clamp (by omega), eR]
      refine And.intro (fun cz => absurd cz (nI_ge hjR (by omega))) (fun _ => ?_)
      have et : ((nI (dueN nR sh st up) &&& nI up) >>> (nI j &&& 31)) &&& 1 = nI (drB nR sh st up j).toNat := by rw [nx_and]; exact nx_tb hdp (by omega)
      have nxt := ih (j + 1) (by omega)
      have ei : (6 : Int32) * nI d + nI j = nI (6 * d + j) := by rw [show (6 : Int32) = nI 6 from rfl, nI_mul, nI_add]
      have hl1 := lsF_1 (drB nR sh st up) sl nR (fun r hr => (ew r hr).2) j (by omega)
      cases hdj : drB nR sh st up j
      · rw [hdj] at et
        refine And.intro (fun cz => absurd et cz) (fun _ => ?_)
        rw [zF_no hdj, nI_succ] at nxt
        exact go_loc (lv' := [(9, .int (nI j + 1)), (8, .int (nI (lsF (drB nR sh st up) sl j).2)), (7, .int (nI (lsF (drB nR sh st up) sl j).1)), (6, .int (nI (qkN nR sh st up ||| zF (lsF (drB nR sh st up) sl j)))), (5, .int (nI (dueN nR sh st up))), (0, .ref o), (1, .int (nI d)), (2, .int (nI i)), (3, .int (nI up)), (4, .int (nI st))]) ⟨rfl, rfl, rfl, rfl, rfl, rfl, rfl, rfl, rfl, rfl, trivial⟩ nxt
      · rw [hdj] at et
        refine And.intro (fun _ => ?_) (fun cz => absurd (et.symm.trans cz) (by decide))
        refine Exists.intro _ (And.intro ho (Exists.intro _ (And.intro f25 ?_)))
        refine Exists.intro _ (Exists.intro _ (And.intro h25 (And.intro (by rw [ei]; exact vp_in_nI (by omega) (by decide)) ?_)))
        rw [ei, nI_clamp (by omega), w1]
        have ez := zF_step (sl := sl) hdj
        rw [ez] at nxt
        have el : lsF (drB nR sh st up) sl (j + 1) = _ := if_pos hdj
        by_cases h0 : sl j = 0
        · rw [if_pos h0, ← Nat.or_assoc, ← nx_or ((qkN nR sh st up) ||| _), ← nx_pow (by omega)] at nxt
          refine And.intro (fun cz => absurd (show nI (sl j) = 0 by rw [h0]; rfl) cz) (fun _ => ?_)
          by_cases h1 : sl j < ((lsF (drB nR sh st up) sl j)).1
          · rw [el, if_pos h1, nI_succ] at nxt
            refine And.intro (fun cz => absurd cz (nI_ge h1 (by omega))) (fun _ => ?_)
            refine And.intro (fun cz => absurd rfl cz) (fun _ => ?_)
            rw [show nI (2 ^ j) = nI 0 ||| ((1 : Int32) <<< (nI j &&& 31)) from by rw [nx_pow (by omega), nx_or, Nat.zero_or]] at nxt
            exact go_loc (lv' := [(9, .int (nI j + 1)), (8, .int (nI 0 ||| ((1 : Int32) <<< (nI j &&& 31)))), (7, .int (nI (sl j))), (6, .int (nI (qkN nR sh st up ||| zF ((lsF (drB nR sh st up) sl j))) ||| ((1 : Int32) <<< (nI j &&& 31)))), (5, .int (nI (dueN nR sh st up))), (0, .ref o), (1, .int (nI d)), (2, .int (nI i)), (3, .int (nI up)), (4, .int (nI st))]) ⟨rfl, rfl, rfl, rfl, rfl, rfl, rfl, rfl, rfl, rfl, trivial⟩ nxt
          · refine And.intro (fun _ => ?_) (fun cz => absurd (nI_le (by omega) (by omega)) cz)
            by_cases h2 : sl j = ((lsF (drB nR sh st up) sl j)).1
            · rw [el, if_neg h1, if_pos h2, nI_succ, ← nx_or, ← nx_pow (by omega)] at nxt
              refine And.intro (fun cz => absurd (by rw [h2]) cz) (fun _ => ?_)
              exact go_loc (lv' := [(9, .int (nI j + 1)), (8, .int (nI ((lsF (drB nR sh st up) sl j)).2 ||| ((1 : Int32) <<< (nI j &&& 31)))), (7, .int (nI ((lsF (drB nR sh st up) sl j)).1)), (6, .int (nI (qkN nR sh st up ||| zF ((lsF (drB nR sh st up) sl j))) ||| ((1 : Int32) <<< (nI j &&& 31)))), (5, .int (nI (dueN nR sh st up))), (0, .ref o), (1, .int (nI d)), (2, .int (nI i)), (3, .int (nI up)), (4, .int (nI st))]) ⟨rfl, rfl, rfl, rfl, rfl, rfl, rfl, rfl, rfl, rfl, trivial⟩ nxt
            · rw [el, if_neg h1, if_neg h2, nI_succ] at nxt
              refine And.intro (fun _ => ?_) (fun cz => absurd ((nI_eq (by omega) (by omega)).mp cz) h2)
              exact go_loc (lv' := [(9, .int (nI j + 1)), (8, .int (nI ((lsF (drB nR sh st up) sl j)).2)), (7, .int (nI ((lsF (drB nR sh st up) sl j)).1)), (6, .int (nI (qkN nR sh st up ||| zF ((lsF (drB nR sh st up) sl j))) ||| ((1 : Int32) <<< (nI j &&& 31)))), (5, .int (nI (dueN nR sh st up))), (0, .ref o), (1, .int (nI d)), (2, .int (nI i)), (3, .int (nI up)), (4, .int (nI st))]) ⟨rfl, rfl, rfl, rfl, rfl, rfl, rfl, rfl, rfl, rfl, trivial⟩ nxt
        · rw [if_neg h0] at nxt
          refine And.intro (fun _ => ?_) (fun cz => absurd ((nI_eq (by omega) (by decide)).mp (show nI (sl j) = nI 0 from cz)) h0)
          by_cases h1 : sl j < ((lsF (drB nR sh st up) sl j)).1
          · rw [el, if_pos h1, nI_succ] at nxt
            refine And.intro (fun cz => absurd cz (nI_ge h1 (by omega))) (fun _ => ?_)
            refine And.intro (fun cz => absurd rfl cz) (fun _ => ?_)
            rw [show nI (2 ^ j) = nI 0 ||| ((1 : Int32) <<< (nI j &&& 31)) from by rw [nx_pow (by omega), nx_or, Nat.zero_or]] at nxt
            exact go_loc (lv' := [(9, .int (nI j + 1)), (8, .int (nI 0 ||| ((1 : Int32) <<< (nI j &&& 31)))), (7, .int (nI (sl j))), (6, .int (nI (qkN nR sh st up ||| zF ((lsF (drB nR sh st up) sl j))))), (5, .int (nI (dueN nR sh st up))), (0, .ref o), (1, .int (nI d)), (2, .int (nI i)), (3, .int (nI up)), (4, .int (nI st))]) ⟨rfl, rfl, rfl, rfl, rfl, rfl, rfl, rfl, rfl, rfl, trivial⟩ nxt
          · refine And.intro (fun _ => ?_) (fun cz => absurd (nI_le (by omega) (by omega)) cz)
            by_cases h2 : sl j = ((lsF (drB nR sh st up) sl j)).1
            · rw [el, if_neg h1, if_pos h2, nI_succ, ← nx_or, ← nx_pow (by omega)] at nxt
              refine And.intro (fun cz => absurd (by rw [h2]) cz) (fun _ => ?_)
              exact go_loc (lv' := [(9, .int (nI j + 1)), (8, .int (nI ((lsF (drB nR sh st up) sl j)).2 ||| ((1 : Int32) <<< (nI j &&& 31)))), (7, .int (nI ((lsF (drB nR sh st up) sl j)).1)), (6, .int (nI (qkN nR sh st up ||| zF ((lsF (drB nR sh st up) sl j))))), (5, .int (nI (dueN nR sh st up))), (0, .ref o), (1, .int (nI d)), (2, .int (nI i)), (3, .int (nI up)), (4, .int (nI st))]) ⟨rfl, rfl, rfl, rfl, rfl, rfl, rfl, rfl, rfl, rfl, trivial⟩ nxt
            · rw [el, if_neg h1, if_neg h2, nI_succ] at nxt
              refine And.intro (fun _ => ?_) (fun cz => absurd ((nI_eq (by omega) (by omega)).mp cz) h2)
              exact go_loc (lv' := [(9, .int (nI j + 1)), (8, .int (nI ((lsF (drB nR sh st up) sl j)).2)), (7, .int (nI ((lsF (drB nR sh st up) sl j)).1)), (6, .int (nI (qkN nR sh st up ||| zF ((lsF (drB nR sh st up) sl j))))), (5, .int (nI (dueN nR sh st up))), (0, .ref o), (1, .int (nI d)), (2, .int (nI i)), (3, .int (nI up)), (4, .int (nI st))]) ⟨rfl, rfl, rfl, rfl, rfl, rfl, rfl, rfl, rfl, rfl, trivial⟩ nxt
  refine en_X12_allowed hX [46] 60 rfl ?_
  refine Exists.intro _ (And.intro ho (Exists.intro _ (And.intro f64 ?_)))
  refine Exists.intro _ (Exists.intro _ (And.intro h64 (And.intro (by rw [nI_add]; exact vp_in_nI hi (by decide)) ?_)))
  rw [nI_add, nI_clamp (by omega), es]
  refine Exists.intro _ (And.intro ho (Exists.intro _ (And.intro f24 ?_)))
  refine Exists.intro _ (Exists.intro _ (And.intro h24 (And.intro (vp_in_nI hd (by decide)) ?_)))
  rw [nI_clamp (by omega), eR]
  refine Exists.intro _ (And.intro ho (Exists.intro 0 (Exists.intro 0 (And.intro (Nat.le_refl _) (And.intro (Nat.le_refl _) (c_all hX (by omega) ?_))))))
  have e5 : ((nI up ^^^ nI sh) &&& nI (2 ^ nR - 1)) &&& (nI st ^^^ (-1)) = nI (dueN nR sh st up) := by rw [nx_xor, nx_and, nx_andn]; rfl
  have e6 : nI (dueN nR sh st up) &&& (nI up ^^^ (-1)) = nI (qkN nR sh st up) := nx_andn _ _
  have h0 := loop nR 0 (by omega)
  rw [show zF (lsF (drB nR sh st up) sl 0) = 0 from rfl, Nat.or_zero, ← e6, ← e5] at h0
  exact go_loc (lv' := [(9, .int (nI 0)), (8, .int (nI 0)), (7, .int (nI 10)), (6, .int ((((nI up ^^^ nI sh) &&& nI (2 ^ nR - 1)) &&& (nI st ^^^ (-1))) &&& (nI up ^^^ (-1)))), (5, .int (((nI up ^^^ nI sh) &&& nI (2 ^ nR - 1)) &&& (nI st ^^^ (-1)))), (0, .ref o), (1, .int (nI d)), (2, .int (nI i)), (3, .int (nI up)), (4, .int (nI st))]) ⟨rfl, rfl, rfl, rfl, rfl, rfl, rfl, rfl, rfl, rfl, trivial⟩ h0
