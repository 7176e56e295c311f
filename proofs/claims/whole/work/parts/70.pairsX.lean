/-! flaws that are bad together: x's findings -/
theorem at_3 {i j : Nat} (hi : i < 132) (hj : j < 192) : (3 : Int32) * nI i + (nI j >>> ((6 : Int32) &&& 31)) = nI (3 * i + j / 64) := by
  rw [show (3 : Int32) = nI 3 from rfl, nI_mul, show (6 : Int32) = nI 6 from rfl, nx_shr (by omega) (by decide), Nat.shiftRight_eq_div_pow, nI_add]
theorem lo_63 {j : Nat} : nI j &&& 63 = nI (j % 64) := by
  rw [show (63 : Int32) = nI 63 from rfl, nx_and, show (63 : Nat) = 2 ^ 6 - 1 from rfl, Nat.and_two_pow_sub_one_eq_mod]
set_option maxHeartbeats 8000000 in
theorem x_arePartners {l : Launch} {G : GG} {h : AH} {nx : Nat} {Post : Option Value → AH → Nat → Prop} {b i j q : Nat} {p : Nat → Int64} {fs : List Value} (hX : XC G ∧ TX l G) (hb : h b = some (.inr (1, fs))) (f2 : fs[2]? = some (.ref q)) (hq : h q = some (.inl (1, 396, .inr (.inl p)))) (hi : i < 132) (hj : j < 192) (hP : Post (some (.int (nI (bl (p (3 * i + j / 64)) (j % 64)).toNat))) h nx) : Runs l G i_X1_arePartners 0 0 [.ref b, .int (nI i), .int (nI j)] h nx Post := by
  have e1 := at_3 hi hj
  have hx : 3 * i + j / 64 < 396 := by omega
  refine en_X1_arePartners hX [] 60 rfl ?_
  refine And.intro (fun cz => absurd cz (show ¬ (3 : Int32) * nI i + (nI j >>> ((6 : Int32) &&& 31)) < 0 from by rw [e1]; exact nI_pos (by omega))) (fun _ => ?_)
  refine Exists.intro _ (And.intro hb (Exists.intro _ (And.intro f2 ?_)))
  refine Exists.intro _ (Exists.intro _ (And.intro hq (And.intro (by decide) ?_)))
  refine And.intro (fun cz => absurd cz (show ¬ nI 396 ≤ (3 : Int32) * nI i + (nI j >>> ((6 : Int32) &&& 31)) from by rw [e1]; exact nI_ge hx (by decide))) (fun _ => ?_)
  refine Exists.intro _ (And.intro hb (Exists.intro _ (And.intro f2 ?_)))
  refine Exists.intro _ (Exists.intro _ (And.intro hq (And.intro (by rw [e1]; exact vp_in_nI hx (by decide)) ?_)))
  have e2 : (((3 : Int32) * nI i + (nI j >>> ((6 : Int32) &&& 31))).toNatClampNeg) = 3 * i + j / 64 := by rw [e1, nI_clamp (by omega)]
  have e3 : lg_cmp ((((p ((3 : Int32) * nI i + (nI j >>> ((6 : Int32) &&& 31))).toNatClampNeg).toUInt64 >>> ((nI j &&& 63).toInt64.toUInt64 &&& Int64.toUInt64 63)).toInt64 &&& 1)) 0 = 0 ↔ bl (p (3 * i + j / 64)) (j % 64) = false := by
    rw [cmp_eq, e2, lo_63]
    exact bl_test _ _ (by omega)
  cases hb2 : bl (p (3 * i + j / 64)) (j % 64) with
  | false =>
    rw [hb2] at hP e3
    refine And.intro (fun _ => ?_) (fun cz => absurd (e3.mpr rfl) cz)
    exact And.intro rfl (hP)
  | true =>
    rw [hb2] at hP e3
    refine And.intro (fun cz => absurd cz (fun z => absurd (e3.mp z) (by decide))) (fun _ => ?_)
    exact And.intro rfl (hP)
theorem bl_orbit {x : Int64} {k i : Nat} (hk : k < 64) : bl (x ||| ((1 : Int64) <<< ((nI k).toInt64 &&& 63))) i = (bl x i || decide (i = k)) := by rw [bl_or, bl_bit k hk]
set_option maxHeartbeats 8000000 in
theorem x_addPartner {l : Launch} {G : GG} {h : AH} {nx : Nat} {Post : Option Value → AH → Nat → Prop} {b i j q : Nat} {p : Nat → Int64} {fs : List Value} (hX : XC G ∧ TX l G) (hb : h b = some (.inr (1, fs))) (f2 : fs[2]? = some (.ref q)) (hq : h q = some (.inl (1, 396, .inr (.inl p)))) (hi : i < 132) (hj : j < 192) (hP : ∀ p1 : Nat → Int64, (∀ a k, bl (p1 a) k = (bl (p a) k || (decide (a = 3 * i + j / 64) && decide (k = j % 64)))) → Post none (uph h q (.inl (1, 396, .inr (.inl p1)))) nx) : Runs l G i_X1_addPartner 0 0 [.ref b, .int (nI i), .int (nI j)] h nx Post := by
  have e1 := at_3 hi hj
  have hx : 3 * i + j / 64 < 396 := by omega
  refine en_X1_addPartner hX [] 60 rfl ?_
  refine And.intro (fun cz => absurd cz (show ¬ (3 : Int32) * nI i + (nI j >>> ((6 : Int32) &&& 31)) < 0 from by rw [e1]; exact nI_pos (by omega))) (fun _ => ?_)
  refine Exists.intro _ (And.intro hb (Exists.intro _ (And.intro f2 ?_)))
  refine Exists.intro _ (Exists.intro _ (And.intro hq (And.intro (by decide) ?_)))
  refine And.intro (fun cz => absurd cz (show ¬ nI 396 ≤ (3 : Int32) * nI i + (nI j >>> ((6 : Int32) &&& 31)) from by rw [e1]; exact nI_ge hx (by decide))) (fun _ => ?_)
  refine Exists.intro _ (And.intro hb (Exists.intro _ (And.intro f2 ?_)))
  refine Exists.intro _ (Exists.intro _ (And.intro hq (And.intro (by rw [e1]; exact vp_in_nI hx (by decide)) ?_)))
  refine Exists.intro _ (Exists.intro _ (And.intro hq (And.intro (by rw [e1]; exact vp_in_nI hx (by decide)) ?_)))
  refine hP _ (fun a k => ?_)
  rw [e1, nI_clamp (by omega), lo_63]
  by_cases c1 : a = 3 * i + j / 64
  · rw [c1, pk_uLs, bl_orbit (by omega), decide_eq_true rfl, Bool.true_and]
  · rw [pk_uLn c1, decide_eq_false c1, Bool.false_and, Bool.or_false]
theorem take_le_count {P : Nat → Bool} {L : List Nat} {i : Nat} (hi : L.length ≤ i) : (L.take (i + 1)).countP P = (L.take i).countP P := by
  rw [List.take_of_length_le hi, List.take_of_length_le (by omega)]
set_option maxHeartbeats 8000000 in
theorem x_countPartners {l : Launch} {G : GG} {h : AH} {nx : Nat} {Post : Option Value → AH → Nat → Prop} {b m q : Nat} {p : Nat → Int64} {P : Nat → Bool} {L : List Nat} {fs : List Value} (hX : XC G ∧ TX l G) (hb : h b = some (.inr (1, fs))) (f2 : fs[2]? = some (.ref q)) (hq : h q = some (.inl (1, 396, .inr (.inl p)))) (hm : m < 132) (hL : L.length ≤ 132) (hp : ∀ j, j < 192 → bl (p (3 * m + j / 64)) (j % 64) = (decide (j < L.length) && P (L.getD j 0))) (hP : Post (some (.int (nI (L.countP P)))) h nx) : Runs l G i_X1_countPartners 0 0 [.ref b, .int (nI m)] h nx Post := by
  have loop : ∀ (k i n : Nat), i + k = 132 → n = (L.take i).countP P → Go l G 1 s_X1_countPartners 0 0 Post 4 [(3, .int (nI i)), (2, .int (nI n)), (0, .ref b), (1, .int (nI m))] [] h nx 0 0 := by
    intro k
    induction k with
    | zero =>
      intro i n hi hn
      have e : i = 132 := by omega
      subst e
      rw [List.take_of_length_le hL] at hn
      rw [← hn] at hP
      refine Go.of hX.2 ck_X1_countPartners [4] 20 ?_
      refine And.intro (fun _ => ?_) (fun cz => by first | exact absurd cz (by decide) | exact absurd (by decide) cz)
      exact And.intro rfl (hP)
    | succ k ih =>
      intro i n hi hn
      refine Go.of hX.2 ck_X1_countPartners [4] 50 ?_
      refine And.intro (fun cz => absurd cz (nI_ge (a := i) (b := 132) (by omega) (by decide))) (fun _ => ?_)
      refine Exists.intro _ (And.intro hb (Exists.intro 0 (Exists.intro 0 (And.intro (Nat.le_refl _) (And.intro (Nat.le_refl _) (x_arePartners hX hb f2 hq hm (by omega) ?_))))))
      rw [hp i (by omega)]
      by_cases c1 : i < L.length
      · rw [decide_eq_true c1, Bool.true_and]
        have hc := take_succ_count (P := P) c1
        cases c2 : P (L.getD i 0) with
        | false =>
          rw [c2, if_neg (by decide)] at hc
          refine And.intro (fun _ => ?_) (fun cz => by first | exact absurd cz (by decide) | exact absurd (by decide) cz)
          refine go_loc (lv' := [(3, .int (nI i + 1)), (2, .int (nI n + 0)), (0, .ref b), (1, .int (nI m))]) ⟨rfl, rfl, rfl, rfl, trivial⟩ ?_
          rw [← nI_succ, show nI n + 0 = nI n from Int32.add_zero _]
          exact ih (i + 1) n (by omega) (by rw [hc, hn]; rfl)
        | true =>
          rw [c2, if_pos rfl] at hc
          refine And.intro (fun cz => by first | exact absurd cz (by decide) | exact absurd (by decide) cz) (fun _ => ?_)
          refine go_loc (lv' := [(3, .int (nI i + 1)), (2, .int (nI n + 1)), (0, .ref b), (1, .int (nI m))]) ⟨rfl, rfl, rfl, rfl, trivial⟩ ?_
          rw [← nI_succ, ← nI_succ]
          exact ih (i + 1) (n + 1) (by omega) (by rw [hc, hn])
      · rw [decide_eq_false c1, Bool.false_and]
        refine And.intro (fun _ => ?_) (fun cz => by first | exact absurd cz (by decide) | exact absurd (by decide) cz)
        refine go_loc (lv' := [(3, .int (nI i + 1)), (2, .int (nI n + 0)), (0, .ref b), (1, .int (nI m))]) ⟨rfl, rfl, rfl, rfl, trivial⟩ ?_
        rw [← nI_succ, show nI n + 0 = nI n from Int32.add_zero _]
        exact ih (i + 1) n (by omega) (by rw [take_le_count (by omega), hn])
  refine en_X1_countPartners hX [4] 20 rfl ?_
  exact go_loc (lv' := [(3, .int (nI 0)), (2, .int (nI 0)), (0, .ref b), (1, .int (nI m))]) ⟨rfl, rfl, rfl, rfl, trivial⟩ (loop 132 0 0 rfl rfl)
theorem filt_get {P : Nat → Bool} {L : List Nat} {i : Nat} (hi : i < L.length) (hp : P (L.getD i 0) = true) : (L.take i).countP P < (L.filter P).length ∧ (L.filter P).getD ((L.take i).countP P) 0 = L.getD i 0 := by
  have e : L.filter P = (L.take i).filter P ++ (L.getD i 0 :: (L.drop (i + 1)).filter P) := by
    conv => lhs; rw [← List.take_append_drop i L]
    rw [List.filter_append, List.drop_eq_getElem_cons hi, List.filter_cons, if_pos (by rw [← gD hi]; exact hp), gD hi]
  have e2 : (L.take i).countP P = ((L.take i).filter P).length := List.countP_eq_length_filter ..
  rw [e, e2]
  refine ⟨by rw [List.length_append, List.length_cons]; omega, ?_⟩
  rw [List.getD_eq_getElem?_getD, List.getElem?_append_right (Nat.le_refl _), Nat.sub_self]
  rfl
set_option maxHeartbeats 8000000 in
theorem x_partnerAt {l : Launch} {G : GG} {h : AH} {nx : Nat} {Post : Option Value → AH → Nat → Prop} {b m q : Nat} {i0 : Int32} {p : Nat → Int64} {P : Nat → Bool} {L : List Nat} {fs : List Value} (hX : XC G ∧ TX l G) (hb : h b = some (.inr (1, fs))) (f2 : fs[2]? = some (.ref q)) (hq : h q = some (.inl (1, 396, .inr (.inl p)))) (hm : m < 132) (hL : L.length ≤ 132) (hp : ∀ j, j < 192 → bl (p (3 * m + j / 64)) (j % 64) = (decide (j < L.length) && P (L.getD j 0))) (hPy : ∀ n k, i0 = nI n → n < (L.filter P).length → k < L.length → L.getD k 0 = (L.filter P).getD n 0 → Post (some (.int (nI k))) h nx) (hPn : (∀ n, i0 = nI n → n < 2 ^ 31 → (L.filter P).length ≤ n) → Post (some (.int (-1))) h nx) (hP : True) : Runs l G i_X1_partnerAt 0 0 [.ref b, .int (nI m), .int i0] h nx Post := by
  by_cases c0 : i0 < 0
  · have hn := hPn (fun n e hn2 => absurd (e ▸ c0) (nI_pos hn2))
    refine en_X1_partnerAt hX [] 30 rfl ?_
    refine And.intro (fun cz => by first | exact absurd cz (by decide) | exact absurd (by decide) cz) (fun _ => ?_)
    refine And.intro (fun _ => ?_) (fun cz => absurd (c0) cz)
    exact And.intro rfl hn
  · obtain ⟨n0, hn0, rfl⟩ := nI_of c0
    have loop : ∀ (k i n : Nat), i + k = 132 → n = (L.take i).countP P → n ≤ n0 → Go l G 1 s_X1_partnerAt 0 0 Post 5 [(4, .int (nI i)), (3, .int (nI (n0 - n))), (0, .ref b), (1, .int (nI m)), (2, .int (nI n0))] [] h nx 0 0 := by
      intro k
      induction k with
      | zero =>
        intro i n hi hn hle
        have e : i = 132 := by omega
        subst e
        rw [List.take_of_length_le hL] at hn
        refine Go.of hX.2 ck_X1_partnerAt [5] 20 ?_
        refine And.intro (fun _ => ?_) (fun cz => by first | exact absurd cz (by decide) | exact absurd (by decide) cz)
        refine And.intro rfl (hPn (fun n2 e2 h2 => ?_))
        have := (nI_eq hn0 h2).mp e2
        rw [← List.countP_eq_length_filter, ← hn]
        omega
      | succ k ih =>
        intro i n hi hn hle
        refine Go.of hX.2 ck_X1_partnerAt [5] 60 ?_
        refine And.intro (fun cz => absurd cz (nI_ge (a := i) (b := 132) (by omega) (by decide))) (fun _ => ?_)
        refine And.intro (fun cz => absurd cz (nI_pos (by omega))) (fun _ => ?_)
        refine Exists.intro _ (And.intro hb (Exists.intro 0 (Exists.intro 0 (And.intro (Nat.le_refl _) (And.intro (Nat.le_refl _) (x_arePartners hX hb f2 hq hm (by omega) ?_))))))
        rw [hp i (by omega)]
        by_cases c1 : i < L.length
        · rw [decide_eq_true c1, Bool.true_and]
          have hc := take_succ_count (P := P) c1
          cases c2 : P (L.getD i 0) with
          | false =>
            rw [c2, if_neg (by decide)] at hc
            refine And.intro (fun _ => ?_) (fun cz => by first | exact absurd cz (by decide) | exact absurd (by decide) cz)
            refine go_loc (lv' := [(4, .int (nI i + 1)), (3, .int (nI (n0 - n))), (0, .ref b), (1, .int (nI m)), (2, .int (nI n0))]) ⟨rfl, rfl, rfl, rfl, rfl, trivial⟩ ?_
            rw [← nI_succ]
            exact ih (i + 1) n (by omega) (by rw [hc, hn]; rfl) hle
          | true =>
            rw [c2, if_pos rfl] at hc
            refine And.intro (fun cz => by first | exact absurd cz (by decide) | exact absurd (by decide) cz) (fun _ => ?_)
            have hg := filt_get c1 c2
            by_cases c3 : n = n0
            · refine And.intro (fun cz => absurd (show nI (n0 - n) = 0 from by rw [c3, Nat.sub_self]; rfl) cz) (fun _ => ?_)
              exact And.intro rfl (hPy n0 i rfl (by rw [← c3, hn]; exact hg.1) c1 (by rw [← c3, hn]; exact hg.2.symm))
            · refine And.intro (fun _ => ?_) (fun cz => absurd cz (nI_ne0 (by omega) (by omega)))
              refine go_loc (lv' := [(4, .int (nI i + 1)), (3, .int (nI (n0 - n) + (-1))), (0, .ref b), (1, .int (nI m)), (2, .int (nI n0))]) ⟨rfl, rfl, rfl, rfl, rfl, trivial⟩ ?_
              rw [← nI_succ, show n0 - n = (n0 - (n + 1)) + 1 by omega, pk_m1]
              exact ih (i + 1) (n + 1) (by omega) (by rw [hc, hn]) (by omega)
        · rw [decide_eq_false c1, Bool.false_and]
          refine And.intro (fun _ => ?_) (fun cz => by first | exact absurd cz (by decide) | exact absurd (by decide) cz)
          refine go_loc (lv' := [(4, .int (nI i + 1)), (3, .int (nI (n0 - n))), (0, .ref b), (1, .int (nI m)), (2, .int (nI n0))]) ⟨rfl, rfl, rfl, rfl, rfl, trivial⟩ ?_
          rw [← nI_succ]
          exact ih (i + 1) n (by omega) (by rw [take_le_count (by omega), hn]) hle
    refine en_X1_partnerAt hX [5] 20 rfl ?_
    exact go_loc (lv' := [(4, .int (nI 0)), (3, .int (nI n0)), (0, .ref b), (1, .int (nI m)), (2, .int (nI n0))]) ⟨rfl, rfl, rfl, rfl, rfl, trivial⟩ (loop 132 0 0 rfl rfl (Nat.zero_le _))
set_option maxHeartbeats 8000000 in
theorem x_areBad {l : Launch} {G : GG} {h : AH} {nx : Nat} {Post : Option Value → AH → Nat → Prop} {o w tl c t vb i j : Nat} {fp ah : Int32} {da : Nat → Nat} {dd : Nat → DD} (hX : XC G ∧ TX l G) (hA : XA h o w tl fp c ah da dd) (hH : XH h w c da dd vb) (ht : t < c) (hv : vb + 1 < 2 ^ 31) (hi : i < (flL (dd t)).length) (hj : j < (flL (dd t)).length) (hP : ∀ h1 : AH, (∀ x, (x < w + 43 ∨ w + 52 ≤ x) → h1 x = h x) → XH h1 w c da dd (vb + 1) → Post (some (.int (nI (bdB (dd t) (some ((flL (dd t)).getD i 0)) (some ((flL (dd t)).getD j 0))).toNat))) h1 nx) : Runs l G i_X7_areBadTogether 0 0 [.ref (w + 48), .ref (da t), .int (nI i), .int (nI j)] h nx Post := by
  have hdt : isDr w c da dd (da t) (dd t) := Or.inr ⟨t, ht, rfl, rfl⟩
  have hlo : w + 137 ≤ da t := (hA.2.2.2.2.1 t ht).2.2
  have hw := (hdt.xd hA).2.1
  have hl := flL_len hw
  obtain ⟨hD, _, _⟩ := hdt.xd hA
  obtain ⟨cc, g2, g3, g4, g5, g10, g13, g14, g16, g17, g18, g19, g27, g28, g1, g11, g12, d0, _⟩ := id hD
  refine en_X7_areBadTogether hX [] 60 rfl ?_
  obtain ⟨_, _, _, _, _, _, _, _, ⟨_, _, _, _, _, ⟨_, _, _, s0, _, sf0, _⟩, _⟩, _⟩ := id hH
  refine Exists.intro _ (And.intro s0 (Exists.intro _ (And.intro sf0 ?_)))
  obtain ⟨q, a, b2, ver, x1, _⟩ := id hH
  obtain ⟨fs, gm, gw, gl, ge, u0, _⟩ := x1
  have efl : ∀ i, i < (flL (dd t)).length → aFlaw (dd t) (nI i) = flI (some ((flL (dd t)).getD i 0)) := fun i hin => by unfold aFlaw; rw [if_pos ⟨nI_pos' (by omega), nI_lt hin (by omega)⟩, nI_clamp (by omega)]; rfl
  refine Exists.intro _ (And.intro d0 (Exists.intro 0 (Exists.intro 0 (And.intro (Nat.le_refl _) (And.intro (Nat.le_refl _) (x_flawAt hX hD hw ?_))))))
  rw [efl i hi]
  refine Exists.intro _ (And.intro d0 (Exists.intro 0 (Exists.intro 0 (And.intro (Nat.le_refl _) (And.intro (Nat.le_refl _) (x_flawAt hX hD hw ?_))))))
  rw [efl j hj]
  refine Exists.intro _ (And.intro u0 (Exists.intro 0 (Exists.intro 0 (And.intro (Nat.le_refl _) (And.intro (Nat.le_refl _) (x_prepDr hX hA hH ht (flL_ok hw hi) (flL_ok hw hj) (by omega) (fun h2 ver2 y1 y2 y3 y4 => ?_)))))))
  have hA2 : XA h2 o w tl fp c ah da dd := hA.mid (fun x hx => y1 x (by omega))
  obtain ⟨hD2, _, _⟩ := hdt.xd hA2
  have hq2 : WK (kOne (dd t) (some ((flL (dd t)).getD i 0)) (some ((flL (dd t)).getD j 0))) := WK_one hw (flL_ok hw hi) (flL_ok hw hj)
  obtain ⟨_, _, _, _, _, ⟨_, _, _, s02, _⟩, _⟩ := id y3
  refine Exists.intro _ (And.intro s02 (Exists.intro 0 (Exists.intro 0 (And.intro (Nat.le_refl _) (And.intro (Nat.le_refl _) (x_explore (A := 1) (B := 0) hX y2 hq2 hD2 hD2 (by unfold awy; omega) (by unfold awy; omega) y3 rfl (by omega) (by omega) (fun h3 S wa cm go z1 z2 z3 z4 z5 => ?_)))))))
  have hwa := z4.wa z5
  have hng := z4.neg
  have hP := hP h3 (fun x a1 => (z1 x (by omega)).trans (y1 x (by omega))) (z2.xh hq2 hdt hdt (z3.sx z4) (by omega))
  obtain ⟨fs7, gq7, gs7, c0, cl, cf0, cf1, cf2, cf3, cf4, cf5, cf6, _⟩ := id z3
  refine Exists.intro _ (And.intro c0 (Exists.intro _ (And.intro cf6 ?_)))
  have hbd : bdB (dd t) (some ((flL (dd t)).getD i 0)) (some ((flL (dd t)).getD j 0)) = decide (wa ≠ -1) := by rw [hwa]; rfl
  rw [hbd] at hP
  by_cases c1 : wa < 0
  · refine And.intro (fun _ => ?_) (fun cz => absurd (c1) cz)
    rw [decide_eq_false (show ¬ wa ≠ -1 from fun z => z (hng.mp c1))] at hP
    exact And.intro rfl (hP)
  · refine And.intro (fun cz => absurd cz (c1)) (fun _ => ?_)
    rw [decide_eq_true (show wa ≠ -1 from fun z => c1 (hng.mpr z))] at hP
    exact And.intro rfl (hP)
set_option maxHeartbeats 8000000 in
theorem x_findPartners {l : Launch} {G : GG} {h : AH} {nx : Nat} {Post : Option Value → AH → Nat → Prop} {o w tl c t vb m : Nat} {fp ah sc : Int32} {da : Nat → Nat} {dd : Nat → DD} (hX : XC G ∧ TX l G) (hA : XA h o w tl fp c ah da dd) (hH : XH h w c da dd vb) (ht : t < c) (hv : vb + 400 < 2 ^ 31) (hO : FO h (da t) sc) (hF : FA h (da t) (dd t)) (hG : FP h (da t) (dd t)) (hm : m < (flL (dd t)).length) (hP : ∀ h1 : AH, (∀ x, (x < w + 43 ∨ w + 52 ≤ x) → (x < da t + 21 ∨ da t + 24 ≤ x) → h1 x = h x) → XH h1 w c da dd (vb + 264) → FA h1 (da t) (dd t) → FP h1 (da t) (dd t) → (∃ p : Nat → Int64, h1 (da t + 23) = some (.inl (1, 396, .inr (.inl p))) ∧ ∀ j, j < 192 → bl (p (3 * m + j / 64)) (j % 64) = (decide (j < (flL (dd t)).length) && pbB (dd t) ((flL (dd t)).getD m 0) ((flL (dd t)).getD j 0))) → Post none h1 nx) : Runs l G i_X7_findPartners 0 0 [.ref (w + 48), .ref (da t), .int (nI m)] h nx Post := by
  have hdt : isDr w c da dd (da t) (dd t) := Or.inr ⟨t, ht, rfl, rfl⟩
  have hlo : w + 137 ≤ da t := (hA.2.2.2.2.1 t ht).2.2
  have hw := (hdt.xd hA).2.1
  have hl := flL_len hw
  obtain ⟨hD, _, _⟩ := hdt.xd hA
  obtain ⟨cc, g2, g3, g4, g5, g10, g13, g14, g16, g17, g18, g19, g27, g28, g1, g11, g12, d0, _⟩ := id hD
  obtain ⟨k0, p0, e22, e23, vp⟩ := hG
  obtain ⟨_, _, _, _, _, _, _, _, ⟨_, _, _, _, _, ⟨_, _, _, s0, _⟩, _⟩, _⟩ := id hH
  refine en_X7_findPartners hX [42] 60 rfl ?_
  refine Exists.intro _ (And.intro d0 (Exists.intro _ (And.intro rfl ?_)))
  refine And.intro (fun cz => absurd cz (nI_pos (by omega))) (fun _ => ?_)
  refine And.intro (fun cz => absurd cz (nI_ge (a := m) (b := 132) (by omega) (by decide))) (fun _ => ?_)
  refine Exists.intro _ (And.intro hO (Exists.intro _ (And.intro rfl ?_)))
  refine Exists.intro 2 (Exists.intro _ (Exists.intro _ (And.intro e22 (And.intro (Or.inl rfl) (And.intro (vp_in_nI (by omega) (by decide)) ?_)))))
  rw [nI_clamp (show m < 2 ^ 31 by omega)]
  rcases vp m hm with ⟨k0m, vpm⟩ | ⟨k0m, vpm⟩
  · rw [k0m]
    refine And.intro (fun _ => ?_) (fun cz => by first | exact absurd cz (by decide) | exact absurd (by decide) cz)
    refine Exists.intro _ (And.intro hO (Exists.intro _ (And.intro rfl ?_)))
    refine Exists.intro 2 (Exists.intro _ (Exists.intro _ (And.intro e22 (And.intro (Or.inl rfl) (And.intro (vp_in_nI (by omega) (by decide)) ?_)))))
    rw [nI_clamp (show m < 2 ^ 31 by omega)]
    have hA1 : XA (uph h (da t + 22) (.inl (2, 132, .inl (upd k0 m (vp_nar (TY 2) 1))))) o w tl fp c ah da dd := hA.fn ht (fun x _ z => uph_ne (by omega))
    have hO1 : FO (uph h (da t + 22) (.inl (2, 132, .inl (upd k0 m (vp_nar (TY 2) 1))))) (da t) sc := hO.ag (uph_ne (by omega))
    have hF1 : FA (uph h (da t + 22) (.inl (2, 132, .inl (upd k0 m (vp_nar (TY 2) 1))))) (da t) (dd t) := hF.ag (uph_ne (by omega))
    have hH1 : XH (uph h (da t + 22) (.inl (2, 132, .inl (upd k0 m (vp_nar (TY 2) 1))))) w c da dd vb := hH.ag (fun x _ _ => uph_ne (by omega))
    refine Exists.intro _ (And.intro ((uph_ne (by omega)).trans s0) (Exists.intro 0 (Exists.intro 0 (And.intro (Nat.le_refl _) (And.intro (Nat.le_refl _) (x_countBad hX hA1 hH1 ht (by omega) hO1 hF1 (fun h2 y1 y2 y3 => ?_)))))))
    obtain ⟨ga, ea, va⟩ := y3
    have e22b : h2 (da t + 22) = some (.inl (2, 132, .inl (upd k0 m 1))) := (y1 _ (by omega) (by omega)).trans uph_eq
    have e23b : h2 (da t + 23) = some (.inl (1, 396, .inr (.inl p0))) := (y1 _ (by omega) (by omega)).trans ((uph_ne (by omega)).trans e23)
    have fr2 : ∀ x, (x < w + 43 ∨ w + 52 ≤ x) → (x < da t + 21 ∨ da t + 24 ≤ x) → h2 x = h x := fun x a1 a2 => (y1 x a1 (by omega)).trans (uph_ne (by omega))
    have hFA : ∀ {h3 : AH}, h3 (da t + 21) = some (.inl (2, 132, .inl ga)) → FA h3 (da t) (dd t) := fun e3 => ⟨ga, e3, fun i hi => Or.inr (va i hi)⟩
    have hFP : ∀ {h3 : AH} {p : Nat → Int64}, h3 (da t + 22) = some (.inl (2, 132, .inl (upd k0 m 1))) → h3 (da t + 23) = some (.inl (1, 396, .inr (.inl p))) → (∀ j, j < 192 → bl (p (3 * m + j / 64)) (j % 64) = (decide (j < (flL (dd t)).length) && pbB (dd t) ((flL (dd t)).getD m 0) ((flL (dd t)).getD j 0))) → (∀ r j, r ≠ m → j < 192 → bl (p (3 * r + j / 64)) (j % 64) = bl (p0 (3 * r + j / 64)) (j % 64)) → FP h3 (da t) (dd t) := by
      intro h3 p e1 e2 v1 v2
      refine ⟨_, p, e1, e2, fun i hi => ?_⟩
      by_cases e : i = m
      · right
        rw [e, pk_us]
        exact ⟨rfl, v1⟩
      · rw [pk_un e]
        rcases vp i hi with ⟨a1, a2⟩ | ⟨a1, a2⟩
        · exact Or.inl ⟨a1, fun j hj => by rw [v2 i j e hj]; exact a2 j hj⟩
        · exact Or.inr ⟨a1, fun j hj => by rw [v2 i j e hj]; exact a2 j hj⟩
    have loop : ∀ (k i : Nat) (h3 : AH) (p : Nat → Int64), i + k = (flL (dd t)).length → (∀ x, (x < w + 43 ∨ w + 52 ≤ x) → (x < da t + 21 ∨ da t + 24 ≤ x) → h3 x = h x) → XH h3 w c da dd (vb + 132 + i) → h3 (da t + 21) = some (.inl (2, 132, .inl ga)) → h3 (da t + 22) = some (.inl (2, 132, .inl (upd k0 m 1))) → h3 (da t + 23) = some (.inl (1, 396, .inr (.inl p))) → (∀ j, j < 192 → bl (p (3 * m + j / 64)) (j % 64) = (decide (j < i) && pbB (dd t) ((flL (dd t)).getD m 0) ((flL (dd t)).getD j 0))) → (∀ r j, r ≠ m → j < 192 → bl (p (3 * r + j / 64)) (j % 64) = bl (p0 (3 * r + j / 64)) (j % 64)) → Go l G 7 s_X7_findPartners 0 0 Post 42 [(4, .int (nI i)), (3, .ref (da t + 20)), (0, .ref (w + 48)), (1, .ref (da t)), (2, .int (nI m))] [] h3 nx 0 0 := by
      intro k
      induction k with
      | zero =>
        intro i h3 p hi hs hH3 e3a e3b e3c v1 v2
        have hA3 : XA h3 o w tl fp c ah da dd := hA.fn ht (fun x z1 z2 => hs x (by omega) (by omega))
        obtain ⟨hD3, _, _⟩ := hdt.xd hA3
        obtain ⟨cc, g2, g3, g4, g5, g10, g13, g14, g16, g17, g18, g19, g27, g28, g1, g11, g12, d03, _⟩ := id hD3
        have ei : i = (flL (dd t)).length := by omega
        rw [ei] at v1
        refine Go.of hX.2 ck_X7_findPartners [42] 30 ?_
        refine Exists.intro _ (And.intro d03 (Exists.intro _ (And.intro rfl ?_)))
        refine And.intro (fun _ => ?_) (fun cz => absurd (nI_le (a := (flL (dd t)).length) (b := i) (by omega) (by omega)) cz)
        exact hP h3 hs (hH3.le (by omega)) (hFA e3a) (hFP e3b e3c v1 v2) ⟨p, e3c, v1⟩
      | succ k ih =>
        intro i h3 p hi hs hH3 e3a e3b e3c v1 v2
        have hin : i < (flL (dd t)).length := by omega
        have hA3 : XA h3 o w tl fp c ah da dd := hA.fn ht (fun x z1 z2 => hs x (by omega) (by omega))
        obtain ⟨hD3, _, _⟩ := hdt.xd hA3
        obtain ⟨cc, g2, g3, g4, g5, g10, g13, g14, g16, g17, g18, g19, g27, g28, g1, g11, g12, d03, _⟩ := id hD3
        have hO3 : FO h3 (da t) sc := hO.ag (hs _ (by omega) (by omega))
        have back : ∀ (h4 : AH), (∀ x, (x < w + 43 ∨ w + 52 ≤ x) → h4 x = h3 x) → XH h4 w c da dd (vb + 132 + (i + 1)) → pbB (dd t) ((flL (dd t)).getD m 0) ((flL (dd t)).getD i 0) = false → Go l G 7 s_X7_findPartners 0 0 Post 42 [(4, .int (nI i + 1)), (3, .ref (da t + 20)), (0, .ref (w + 48)), (1, .ref (da t)), (2, .int (nI m))] [] h4 nx 0 0 := by
          intro h4 s4 H4 hno
          rw [← nI_succ]
          refine ih (i + 1) h4 p (by omega) (fun x a1 a2 => (s4 x a1).trans (hs x a1 a2)) H4 ((s4 _ (by omega)).trans e3a) ((s4 _ (by omega)).trans e3b) ((s4 _ (by omega)).trans e3c) (fun j hj => ?_) v2
          rw [v1 j hj]
          by_cases c1 : j < i
          · rw [decide_eq_true c1, decide_eq_true (show j < i + 1 by omega)]
          · rw [decide_eq_false c1, Bool.false_and]
            by_cases c2 : j = i
            · rw [c2, hno, Bool.and_false]
            · rw [decide_eq_false (show ¬ j < i + 1 by omega), Bool.false_and]
        have same : XH h3 w c da dd (vb + 132 + (i + 1)) := hH3.le (by omega)
        refine Go.of hX.2 ck_X7_findPartners [42, 117] 120 ?_
        refine Exists.intro _ (And.intro d03 (Exists.intro _ (And.intro rfl ?_)))
        refine And.intro (fun cz => absurd cz (nI_ge (a := i) (b := (flL (dd t)).length) hin (by omega))) (fun _ => ?_)
        refine And.intro (fun cz => absurd cz (nI_ge (a := i) (b := 132) (by omega) (by decide))) (fun _ => ?_)
        by_cases c1 : i = m
        · refine And.intro (fun _ => ?_) (fun cz => absurd (show nI i = nI m from by rw [c1]) cz)
          refine go_loc (lv' := [(4, .int (nI i + 1)), (3, .ref (da t + 20)), (0, .ref (w + 48)), (1, .ref (da t)), (2, .int (nI m))]) ⟨rfl, rfl, rfl, rfl, rfl, trivial⟩ ?_
          exact back h3 (fun _ _ => rfl) same (by unfold pbB; rw [c1, decide_eq_false (fun z => z rfl), Bool.false_and])
        · have hne : (flL (dd t)).getD i 0 ≠ (flL (dd t)).getD m 0 := fun z => c1 (flL_inj hin hm z)
          refine And.intro (fun cz => absurd cz (fun z => c1 ((nI_eq (by omega) (by omega)).mp z))) (fun _ => ?_)
          refine Exists.intro _ (And.intro hO3 (Exists.intro _ (And.intro rfl ?_)))
          refine Exists.intro 2 (Exists.intro _ (Exists.intro _ (And.intro e3a (And.intro (Or.inl rfl) (And.intro (vp_in_nI (by omega) (by decide)) ?_)))))
          rw [nI_clamp (show m < 2 ^ 31 by omega), va m hm]
          cases c2 : bd1 (dd t) ((flL (dd t)).getD m 0) with
          | true =>
            refine And.intro (fun _ => ?_) (fun cz => by first | exact absurd cz (by decide) | exact absurd (by decide) cz)
            refine go_loc (lv' := [(4, .int (nI i + 1)), (3, .ref (da t + 20)), (0, .ref (w + 48)), (1, .ref (da t)), (2, .int (nI m))]) ⟨rfl, rfl, rfl, rfl, rfl, trivial⟩ ?_
            exact back h3 (fun _ _ => rfl) same (by unfold pbB; rw [c2]; simp)
          | false =>
            refine And.intro (fun cz => by first | exact absurd cz (by decide) | exact absurd (by decide) cz) (fun _ => ?_)
            refine Exists.intro _ (And.intro hO3 (Exists.intro _ (And.intro rfl ?_)))
            refine Exists.intro 2 (Exists.intro _ (Exists.intro _ (And.intro e3a (And.intro (Or.inl rfl) (And.intro (vp_in_nI (by omega) (by decide)) ?_)))))
            rw [nI_clamp (show i < 2 ^ 31 by omega), va i hin]
            cases c3 : bd1 (dd t) ((flL (dd t)).getD i 0) with
            | true =>
              refine And.intro (fun cz => by first | exact absurd cz (by decide) | exact absurd (by decide) cz) (fun _ => ?_)
              refine go_loc (lv' := [(4, .int (nI i + 1)), (3, .ref (da t + 20)), (0, .ref (w + 48)), (1, .ref (da t)), (2, .int (nI m))]) ⟨rfl, rfl, rfl, rfl, rfl, trivial⟩ ?_
              exact back h3 (fun _ _ => rfl) same (by unfold pbB; rw [c3]; simp)
            | false =>
              refine And.intro (fun _ => ?_) (fun cz => by first | exact absurd cz (by decide) | exact absurd (by decide) cz)
              have epb : pbB (dd t) ((flL (dd t)).getD m 0) ((flL (dd t)).getD i 0) = bdB (dd t) (some ((flL (dd t)).getD m 0)) (some ((flL (dd t)).getD i 0)) := by
                unfold pbB
                rw [c2, c3, decide_eq_true hne]
                rfl
              have done : ∀ (h4 : AH) (bb : Bool), (∀ x, (x < w + 43 ∨ w + 52 ≤ x) → h4 x = h3 x) → XH h4 w c da dd (vb + 132 + (i + 1)) → bb = pbB (dd t) ((flL (dd t)).getD m 0) ((flL (dd t)).getD i 0) → Go l G 7 s_X7_findPartners 0 0 Post 117 [(4, .int (nI i)), (3, .ref (da t + 20)), (0, .ref (w + 48)), (1, .ref (da t)), (2, .int (nI m))] [.int (nI bb.toNat)] h4 nx 0 0 := by
                intro h4 bb s4 H4 ebb
                refine Go.of hX.2 ck_X7_findPartners [42] 60 ?_
                cases bb with
                | false =>
                  refine And.intro (fun _ => ?_) (fun cz => by first | exact absurd cz (by decide) | exact absurd (by decide) cz)
                  refine go_loc (lv' := [(4, .int (nI i + 1)), (3, .ref (da t + 20)), (0, .ref (w + 48)), (1, .ref (da t)), (2, .int (nI m))]) ⟨rfl, rfl, rfl, rfl, rfl, trivial⟩ ?_
                  exact back h4 s4 H4 ebb.symm
                | true =>
                  have hO4 : FO h4 (da t) sc := hO3.ag (s4 _ (by omega))
                  refine And.intro (fun cz => by first | exact absurd cz (by decide) | exact absurd (by decide) cz) (fun _ => ?_)
                  refine Exists.intro _ (And.intro hO4 (Exists.intro 0 (Exists.intro 0 (And.intro (Nat.le_refl _) (And.intro (Nat.le_refl _) (x_addPartner hX hO4 rfl ((s4 _ (by omega)).trans e3c) (by omega) (by omega) (fun p1 hp1 => ?_)))))))
                  refine go_loc (lv' := [(4, .int (nI i + 1)), (3, .ref (da t + 20)), (0, .ref (w + 48)), (1, .ref (da t)), (2, .int (nI m))]) ⟨rfl, rfl, rfl, rfl, rfl, trivial⟩ ?_
                  rw [← nI_succ]
                  refine ih (i + 1) _ p1 (by omega) (fun x a1 a2 => (uph_ne (by omega)).trans ((s4 x a1).trans (hs x a1 a2))) (H4.ag (fun x _ _ => uph_ne (by omega))) ((uph_ne (by omega)).trans ((s4 _ (by omega)).trans e3a)) ((uph_ne (by omega)).trans ((s4 _ (by omega)).trans e3b)) uph_eq (fun j hj => ?_) (fun r j hr hj => ?_)
                  · rw [hp1, v1 j hj]
                    by_cases c4 : j = i
                    · rw [c4, decide_eq_true rfl, decide_eq_true (show i < i + 1 by omega), ← ebb, decide_eq_true rfl]
                      simp
                    · rw [show (decide (3 * m + j / 64 = 3 * m + i / 64) && decide (j % 64 = i % 64)) = false from by
                        by_cases z1 : j / 64 = i / 64
                        · rw [decide_eq_false (show ¬ j % 64 = i % 64 by omega), Bool.and_false]
                        · rw [decide_eq_false (show ¬ 3 * m + j / 64 = 3 * m + i / 64 by omega), Bool.false_and], Bool.or_false]
                      congr 1
                      by_cases z2 : j < i
                      · rw [decide_eq_true z2, decide_eq_true (show j < i + 1 by omega)]
                      · rw [decide_eq_false z2, decide_eq_false (show ¬ j < i + 1 by omega)]
                  · rw [hp1, v2 r j hr hj, decide_eq_false (show ¬ 3 * r + j / 64 = 3 * m + i / 64 by omega), Bool.false_and, Bool.or_false]
              refine Exists.intro _ (And.intro hO3 (Exists.intro _ (And.intro rfl ?_)))
              refine Exists.intro 2 (Exists.intro _ (Exists.intro _ (And.intro e3b (And.intro (Or.inl rfl) (And.intro (vp_in_nI (by omega) (by decide)) ?_)))))
              rw [nI_clamp (show i < 2 ^ 31 by omega), pk_un c1]
              rcases vp i hin with ⟨a1, a2⟩ | ⟨a1, a2⟩
              · rw [a1]
                refine And.intro (fun _ => ?_) (fun cz => by first | exact absurd cz (by decide) | exact absurd (by decide) cz)
                obtain ⟨_, _, _, _, _, _, _, _, ⟨_, _, _, _, _, ⟨_, _, _, s03, _⟩, _⟩, _⟩ := id hH3
                refine Exists.intro _ (And.intro s03 (Exists.intro 0 (Exists.intro 0 (And.intro (Nat.le_refl _) (And.intro (Nat.le_refl _) (x_areBad hX hA3 hH3 ht (by omega) hm hin (fun h4 s4 H4 => ?_)))))))
                exact go_loc (lv' := [(4, .int (nI i)), (3, .ref (da t + 20)), (0, .ref (w + 48)), (1, .ref (da t)), (2, .int (nI m))]) ⟨rfl, rfl, rfl, rfl, rfl, trivial⟩ (done h4 _ s4 H4 epb.symm)
              · rw [a1]
                refine And.intro (fun cz => by first | exact absurd cz (by decide) | exact absurd (by decide) cz) (fun _ => ?_)
                refine Exists.intro _ (And.intro hO3 (Exists.intro 0 (Exists.intro 0 (And.intro (Nat.le_refl _) (And.intro (Nat.le_refl _) (x_arePartners hX hO3 rfl e3c (by omega) (by omega) ?_))))))
                refine go_loc (lv' := [(4, .int (nI i)), (3, .ref (da t + 20)), (0, .ref (w + 48)), (1, .ref (da t)), (2, .int (nI m))]) ⟨rfl, rfl, rfl, rfl, rfl, trivial⟩ (done h3 _ (fun _ _ => rfl) same ?_)
                rw [v2 i m c1 (by omega), a2 m (by omega), decide_eq_true hm, Bool.true_and]
                exact pbB_sw _ _ _
    refine go_loc (lv' := [(4, .int (nI 0)), (3, .ref (da t + 20)), (0, .ref (w + 48)), (1, .ref (da t)), (2, .int (nI m))]) ⟨rfl, rfl, rfl, rfl, rfl, trivial⟩ ?_
    refine loop (flL (dd t)).length 0 h2 p0 (Nat.zero_add _) fr2 y2 ea e22b e23b (fun j hj => ?_) (fun _ _ _ _ => rfl)
    rw [vpm j hj, decide_eq_false (Nat.not_lt_zero j), Bool.false_and]
  · rw [k0m]
    refine And.intro (fun cz => by first | exact absurd cz (by decide) | exact absurd (by decide) cz) (fun _ => ?_)
    exact hP h (fun _ _ _ => rfl) (hH.le (by omega)) hF ⟨k0, p0, e22, e23, vp⟩ ⟨p0, e23, vpm⟩
