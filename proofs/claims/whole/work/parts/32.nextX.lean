/-! x's relays that may change next -/
theorem nx_has {a j : Nat} (hj : j < 32) : (nI a &&& ((1 : Int32) <<< (nI j &&& 31))) = 0 ↔ a.testBit j = false := by
  have e : ∀ i, i < 32 → b_b (nI a &&& ((1 : Int32) <<< (nI j &&& 31))) i = (a.testBit i && decide (j = i)) := by
    intro i hi
    rw [nx_pow hj, b_and, bt_nI hi, bt_nI hi, Nat.testBit_two_pow]
  constructor
  · intro z
    have h := e j hj
    rw [z, b_0, decide_eq_true rfl, Bool.and_true] at h
    exact h.symm
  · intro z
    apply b_ext
    intro i hi
    rw [e i hi, b_0]
    by_cases q : j = i
    · subst q; rw [z]; rfl
    · rw [decide_eq_false q, Bool.and_false]
/-- the least slowness as x keeps it -/
def lxI (p : Nat × Nat) : Int32 := if p.1 = 10 then 10 else nI p.1
theorem lsF_0 (dr : Nat → Bool) (sl : Nat → Nat) : ∀ j, (lsF dr sl j).1 = 0 → (lsF dr sl j).2 ≠ 0
  | 0, h => absurd h (show ¬ (10 : Nat) = 0 by decide)
  | j + 1, h => by
    have ih := lsF_0 dr sl j
    have hp : 2 ^ j ≠ 0 := Nat.pos_iff_ne_zero.mp (Nat.two_pow_pos j)
    unfold lsF at h ⊢
    split at h
    · next hd =>
      rw [if_pos hd]
      split at h
      · next h1 => rw [if_pos h1]; exact hp
      · next h1 =>
        rw [if_neg h1]
        split at h
        · next h2 => rw [if_pos h2]; exact fun z => ih h (Nat.or_eq_zero_iff.mp z).1
        · next h2 => rw [if_neg h2]; exact ih h
    · next hd => rw [if_neg hd]; exact ih h
theorem lsF_st {dr : Nat → Bool} {sl : Nat → Nat} {n : Nat} (h : ∀ r, n ≤ r → dr r = false) : ∀ k, lsF dr sl (n + k) = lsF dr sl n
  | 0 => rfl
  | k + 1 => (zF_no (h (n + k) (by omega))).trans (lsF_st h k)
set_option maxHeartbeats 4000000 in
theorem c_movable {l : Launch} {G : GG} {h : AH} {nx : Nat} {Post : Option Value → AH → Nat → Prop} {u on up sh st : Nat} {d nIn K nR nL : Nat} {ow sl : Nat → Nat} {tg : Nat → Nat → Nat → Bool} {CT : Nat → (Nat → Bool) → Bool} {f3 : List Value} (hX : XC G ∧ TX l G) (hu : h u = some (.inr (3, f3))) (u0 : f3[0]? = some (.ref d)) (u9 : f3[9]? = some (.int (nI st))) (hD : DX h d nIn K nR nL ow sl tg CT) (hon : on < 32) (hup : up < 2 ^ nR) (hsh : sh < 2048) (hshR : ∀ r, nR ≤ r → r < 6 → sh.testBit r = false) (hP : Post (some (.int (nI (mvF nR sl sh st up)))) h nx) : Runs l G i_X3_movable 0 0 [.ref u, .int (nI (64 * on + up)), .int (nI sh)] h nx Post := by
  have hD0 := hD
  obtain ⟨fs, ws, wr, qc, q4, q5, q9, qi, qr, qo, qs, gc, g9, wc, wo, go, gs, fi, fr, hd, f11, f15, f12, f6, ho, hs, hc, hw, w0, w4, w5, w9, w10, w11, h4, h5, h9, hi, hr, hIn, hK, hR6, hL5, eo, es, ew, et, ec, eg⟩ := hD
  have hp : 2 ^ nR ≤ 64 := Nat.pow_le_pow_right (n := 2) (by decide) hR6
  have tdu : ∀ r, (dueN nR sh st up).testBit r = ((decide (r < nR) && (up.testBit r ^^ sh.testBit r)) && !st.testBit r) := by
    intro r
    unfold dueN
    simp only [Nat.testBit_xor, Nat.testBit_and, Nat.testBit_two_pow_sub_one]
    cases decide (r < nR) <;> cases up.testBit r <;> cases sh.testBit r <;> cases st.testBit r <;> rfl
  have hdu : dueN nR sh st up < 2 ^ 31 := by
    apply Nat.lt_pow_two_of_testBit
    intro j hj
    rw [tdu, decide_eq_false (by omega)]
    rfl
  have hdr : ∀ r, drB nR sh st up r = ((dueN nR sh st up).testBit r && up.testBit r) := fun r => Nat.testBit_and ..
  have hdrR : ∀ r, nR ≤ r → drB nR sh st up r = false := fun r hr => by rw [hdr, tdu, decide_eq_false (by omega)]; rfl
  have e1 : ((nI (64 * on + up) ^^^ nI sh) &&& 63) &&& (nI st ^^^ (-1)) = nI (dueN nR sh st up) := by
    rw [nx_xor, show (63 : Int32) = nI 63 from rfl, nx_and, nx_andn]
    congr 1
    apply Nat.eq_of_testBit_eq
    intro r
    rw [tdu, show (63 : Nat) = 2 ^ 6 - 1 from rfl]
    simp only [Nat.testBit_xor, Nat.testBit_and, Nat.testBit_two_pow_sub_one]
    have e64 : r < 6 → (64 * on + up).testBit r = up.testBit r := by
      intro hr
      rw [Nat.mul_comm, show (64 : Nat) = 2 ^ 6 from rfl, Nat.mul_comm, Nat.testBit_two_pow_mul_add _ (show up < 2 ^ 6 by omega), if_pos hr]
    by_cases hr : r < nR
    · rw [decide_eq_true hr, decide_eq_true (show r < 6 by omega), e64 (by omega)]
      cases up.testBit r <;> cases sh.testBit r <;> cases st.testBit r <;> rfl
    · rw [decide_eq_false hr]
      by_cases hr6 : r < 6
      · rw [e64 hr6, tb_lt (k := nR) hup (by omega), hshR r (by omega) hr6]
        simp
      · rw [decide_eq_false hr6]
        simp
  have e2 : nI (dueN nR sh st up) &&& nI sh = nI (qkN nR sh st up) := by
    rw [nx_and]
    congr 1
    apply Nat.eq_of_testBit_eq
    intro r
    unfold qkN
    simp only [Nat.testBit_xor, Nat.testBit_and, tdu]
    cases decide (r < nR) <;> cases up.testBit r <;> cases sh.testBit r <;> cases st.testBit r <;> rfl
  have e3 : ∀ j, j < 6 → (((nI (dueN nR sh st up) &&& (nI sh ^^^ (-1))) &&& ((1 : Int32) <<< (nI j &&& 31))) = 0 ↔ drB nR sh st up j = false) := by
    intro j hj
    rw [nx_andn, nx_has (by omega)]
    simp only [Nat.testBit_xor, Nat.testBit_and, hdr, tdu]
    cases decide (j < nR) <;> cases up.testBit j <;> cases sh.testBit j <;> cases st.testBit j <;> simp
  have lx : ∀ j, j ≤ 6 → (lsF (drB nR sh st up) sl j).1 ≤ 10 := by
    intro j hj
    by_cases hjR : j ≤ nR
    · exact (lsF_1 (drB nR sh st up) sl nR (fun r hr => (es r hr).2) j hjR).1
    · obtain ⟨k, rfl⟩ := Nat.exists_eq_add_of_le (show nR ≤ j by omega)
      rw [lsF_st hdrR k]
      exact (lsF_1 (drB nR sh st up) sl nR (fun r hr => (es r hr).2) nR (Nat.le_refl _)).1
  have loop : ∀ (k j : Nat), j + k = 6 → Go l G 3 s_X3_movable 0 0 Post 29 [(7, .int (nI (j))), (6, .int (lxI (lsF (drB nR sh st up) sl (j)))), (5, .int (nI ((lsF (drB nR sh st up) sl (j))).2)), (4, .int (nI (qkN nR sh st up))), (3, .int (nI (dueN nR sh st up))), (0, .ref u), (1, .int (nI (64 * on + up))), (2, .int (nI sh))] [] h nx 0 0 := by
    intro k
    induction k with
    | zero =>
      intro j hj
      obtain rfl : j = 6 := by omega
      have hl6 : lsF (drB nR sh st up) sl 6 = lsF (drB nR sh st up) sl nR := by
        obtain ⟨k, hk⟩ := Nat.exists_eq_add_of_le hR6
        rw [hk]
        exact lsF_st hdrR k
      rw [hl6]
      have hl0 := lsF_0 (drB nR sh st up) sl nR
      have hlx := lx nR hR6
      refine Go.of hX.2 ck_X3_movable [] 60 ?_
      refine And.intro (fun _ => ?_) (fun cz => by first | exact absurd cz (by decide) | exact absurd (by decide) cz)
      by_cases hz : (lsF (drB nR sh st up) sl nR).1 = 0
      · refine And.intro (fun cz => absurd (by unfold lxI; rw [if_neg (by omega), hz]; rfl) cz) (fun _ => ?_)
        unfold mvF zF at hP
        rw [if_pos hz, if_pos (fun z => hl0 hz (Nat.or_eq_zero_iff.mp z).2), ← nx_or] at hP
        exact And.intro rfl hP
      · have hnz : ¬ lxI (lsF (drB nR sh st up) sl nR) = 0 := by
          unfold lxI
          split
          · decide
          · exact nI_ne0 (by omega) (by omega)
        refine And.intro (fun _ => ?_) (fun cz => absurd cz hnz)
        unfold mvF zF at hP
        rw [if_neg hz, Nat.or_zero] at hP
        have hqk : qkN nR sh st up < 2 ^ 31 := by unfold qkN; exact Nat.xor_lt_two_pow hdu (Nat.lt_of_le_of_lt Nat.and_le_left hdu)
        refine And.intro (fun c1 => ?_) (fun c1 => ?_)
        · rw [if_neg (fun z => z ((nI_eq hqk (by decide)).mp (show nI _ = nI 0 from c1)))] at hP
          exact And.intro rfl hP
        · rw [if_pos (fun z => c1 (by rw [z]; rfl))] at hP
          exact And.intro rfl hP
    | succ k ih =>
      intro j hj
      have nxt := ih (j + 1) (by omega)
      have hlx := lx j (by omega)
      refine Go.of hX.2 ck_X3_movable [29] 120 ?_
      refine And.intro (fun cz => absurd cz (nI_ge (b := 6) (by omega) (by decide))) (fun _ => ?_)
      cases hdj : drB nR sh st up j
      · refine And.intro (fun _ => ?_) (fun cz => absurd ((e3 j (by omega)).mpr hdj) cz)
        rw [zF_no hdj, nI_succ] at nxt
        exact go_loc (lv' := [(7, .int (nI j + 1)), (6, .int (lxI (lsF (drB nR sh st up) sl j))), (5, .int (nI (lsF (drB nR sh st up) sl j).2)), (4, .int (nI (qkN nR sh st up))), (3, .int (nI (dueN nR sh st up))), (0, .ref u), (1, .int (nI (64 * on + up))), (2, .int (nI sh))]) ⟨rfl, rfl, rfl, rfl, rfl, rfl, rfl, rfl, trivial⟩ nxt
      · refine And.intro (fun cz => absurd ((e3 j (by omega)).mp cz) (by rw [hdj]; decide)) (fun _ => ?_)
        have hjR : j < nR := by
          rcases Nat.lt_or_ge j nR with hh | hh
          · exact hh
          · rw [hdrR j hh] at hdj; cases hdj
        obtain ⟨w1, w2⟩ := es j hjR
        have el : lsF (drB nR sh st up) sl (j + 1) = _ := if_pos hdj
        refine Exists.intro _ (And.intro hu (Exists.intro _ (And.intro u0 ?_)))
        refine Exists.intro _ (And.intro hd (Exists.intro 0 (Exists.intro 0 (And.intro (Nat.le_refl _) (And.intro (Nat.le_refl _) (c_slowOf hX hD0 hjR ?_))))))
        by_cases h1 : sl j < (lsF (drB nR sh st up) sl j).1
        · have hlt : nI (sl j) < lxI (lsF (drB nR sh st up) sl j) := by
            unfold lxI
            split
            · exact nI_lt (b := 10) (by omega) (by decide)
            · exact nI_lt h1 (by omega)
          refine And.intro (fun cz => absurd hlt (Int32.not_lt.mpr cz)) (fun _ => ?_)
          refine And.intro (fun cz => absurd rfl cz) (fun _ => ?_)
          rw [el, if_pos h1, nI_succ, show lxI (sl j, 2 ^ j) = nI (sl j) from if_neg (by show sl j ≠ 10; omega), show nI (sl j, 2 ^ j).2 = nI 0 ||| ((1 : Int32) <<< (nI j &&& 31)) from by rw [nx_pow (by omega), nx_or, Nat.zero_or]] at nxt
          exact go_loc (lv' := [(7, .int (nI j + 1)), (6, .int (nI (sl j))), (5, .int (nI 0 ||| ((1 : Int32) <<< (nI j &&& 31)))), (4, .int (nI (qkN nR sh st up))), (3, .int (nI (dueN nR sh st up))), (0, .ref u), (1, .int (nI (64 * on + up))), (2, .int (nI sh))]) ⟨rfl, rfl, rfl, rfl, rfl, rfl, rfl, rfl, trivial⟩ nxt
        · have hlt : ¬ nI (sl j) < lxI (lsF (drB nR sh st up) sl j) := by
            unfold lxI
            rw [if_neg (by omega)]
            exact nI_nlt (by omega) (by omega)
          have hlx2 : lxI (lsF (drB nR sh st up) sl j) = nI (lsF (drB nR sh st up) sl j).1 := if_neg (by omega)
          refine And.intro (fun _ => ?_) (fun cz => absurd (Int32.not_lt.mp hlt) cz)
          by_cases h2 : sl j = (lsF (drB nR sh st up) sl j).1
          · rw [el, if_neg h1, if_pos h2, nI_succ, show lxI ((lsF (drB nR sh st up) sl j).1, (lsF (drB nR sh st up) sl j).2 ||| 2 ^ j) = lxI (lsF (drB nR sh st up) sl j) from rfl, ← nx_or, ← nx_pow (by omega)] at nxt
            refine And.intro (fun cz => absurd (by rw [hlx2, h2]) cz) (fun _ => ?_)
            exact go_loc (lv' := [(7, .int (nI j + 1)), (6, .int (lxI (lsF (drB nR sh st up) sl j))), (5, .int (nI (lsF (drB nR sh st up) sl j).2 ||| ((1 : Int32) <<< (nI j &&& 31)))), (4, .int (nI (qkN nR sh st up))), (3, .int (nI (dueN nR sh st up))), (0, .ref u), (1, .int (nI (64 * on + up))), (2, .int (nI sh))]) ⟨rfl, rfl, rfl, rfl, rfl, rfl, rfl, rfl, trivial⟩ nxt
          · rw [el, if_neg h1, if_neg h2, nI_succ] at nxt
            refine And.intro (fun _ => ?_) (fun cz => absurd ((nI_eq (by omega) (by omega)).mp (cz.trans hlx2)) h2)
            rw [show nI (lsF (drB nR sh st up) sl j).2 = nI (lsF (drB nR sh st up) sl j).2 ||| nI 0 from by rw [nx_or, Nat.or_zero]] at nxt
            exact go_loc (lv' := [(7, .int (nI j + 1)), (6, .int (lxI (lsF (drB nR sh st up) sl j))), (5, .int (nI (lsF (drB nR sh st up) sl j).2 ||| nI 0)), (4, .int (nI (qkN nR sh st up))), (3, .int (nI (dueN nR sh st up))), (0, .ref u), (1, .int (nI (64 * on + up))), (2, .int (nI sh))]) ⟨rfl, rfl, rfl, rfl, rfl, rfl, rfl, rfl, trivial⟩ nxt
  refine en_X3_movable hX [29] 60 rfl ?_
  refine Exists.intro _ (And.intro hu (Exists.intro _ (And.intro u9 ?_)))
  have h0 := loop 6 0 rfl
  rw [← e2, ← e1] at h0
  exact go_loc (lv' := [(7, .int (nI 0)), (6, .int (10)), (5, .int (nI 0)), (4, .int ((((nI (64 * on + up) ^^^ nI sh) &&& 63) &&& (nI st ^^^ (-1))) &&& nI sh)), (3, .int (((nI (64 * on + up) ^^^ nI sh) &&& 63) &&& (nI st ^^^ (-1)))), (0, .ref u), (1, .int (nI (64 * on + up))), (2, .int (nI sh))]) ⟨rfl, rfl, rfl, rfl, rfl, rfl, rfl, rfl, trivial⟩ h0
