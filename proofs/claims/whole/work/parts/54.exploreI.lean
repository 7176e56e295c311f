/-! x goes through what is reached: one place -/
/-- the survey's object and rows -/
def CX (h1 : AH) (v u : Nat) (fs : List Value) (qq qo qn : Nat) (S : BS) (wa ver cm : Int32) (gq go : Nat → Int32) (gs : Nat → Int64) : Prop :=
  h1 v = some (.inr (7, fs)) ∧ fs.length = 9 ∧ fs[0]? = some (.ref u) ∧ fs[1]? = some (.ref qq) ∧ fs[2]? = some (.ref qo) ∧ fs[3]? = some (.ref qn) ∧ fs[4]? = some (.int (nI S.1)) ∧ fs[5]? = some (.int (nI S.2.2.2)) ∧ fs[6]? = some (.int wa) ∧ fs[7]? = some (.int cm) ∧ fs[8]? = some (.int ver) ∧ h1 qq = some (.inl (0, 2048, .inl gq)) ∧ h1 qo = some (.inl (0, 2048, .inl go)) ∧ h1 qn = some (.inl (1, 32, .inr (.inl gs)))
/-- the rows hold what is found -/
def CR (val : Nat → Prop) (S : BS) (gq go : Nat → Int32) (gs : Nat → Int64) : Prop :=
  (∀ j, j < S.1 → gq j = nI (S.2.1 j) ∧ (0 < j → go j = nI (8 * (S.2.2.1 j).1 + (S.2.2.1 j).2))) ∧ (∀ on up, on < 32 → up < 64 → bl (gs on) up = memB S.2.1 (64 * on + up) S.1) ∧ ∃ gF gr gf gb : Nat → Int32, AR val S gF gr gf gb
theorem CR.add {val : Nat → Prop} {S : BS} {gq go : Nat → Int32} {gs : Nat → Int64} (h : CR val S gq go gs) {on up k i : Nat} (hon : on < 32) (hup : up < 64) (hv : val (64 * on + up)) (hm : memB S.2.1 (64 * on + up) S.1 = false) (h1 : 0 < S.1) : CR val (bAdd S (64 * on + up) k i) (upd gq S.1 (nI (64 * on + up))) (upd go S.1 (nI (8 * k + i))) (vp_updL gs on (gs on ||| ((1 : Int64) <<< ((nI up).toInt64 &&& 63)))) := by
  obtain ⟨a1, a2, gF, gr, gf, gb, hA⟩ := h
  have hA2 := hA.add (k := k) (i := i) (show 64 * on + up < 2048 by omega) hv hm h1
  have hb : bAdd S (64 * on + up) k i = (S.1 + 1, upN S.2.1 S.1 (64 * on + up), upP S.2.2.1 S.1 (k, i), S.2.2.2) := if_neg (by rw [hm]; decide)
  rw [hb] at hA2 ⊢
  refine ⟨fun j hj => ?_, fun on2 up2 ho2 hu2 => ?_, _, _, _, _, hA2⟩
  · by_cases e : j = S.1
    · subst e
      show upd gq S.1 _ S.1 = nI (upN S.2.1 S.1 (64 * on + up) S.1) ∧ (0 < S.1 → upd go S.1 _ S.1 = nI (8 * (upP S.2.2.1 S.1 (k, i) S.1).1 + (upP S.2.2.1 S.1 (k, i) S.1).2))
      rw [upN_s, show upP S.2.2.1 S.1 (k, i) S.1 = (k, i) from if_pos rfl]
      exact ⟨pk_us, fun _ => pk_us⟩
    · have hj' : j < S.1 + 1 := hj
      obtain ⟨b1, b2⟩ := a1 j (by omega)
      show upd gq S.1 _ j = nI (upN S.2.1 S.1 (64 * on + up) j) ∧ (0 < j → upd go S.1 _ j = nI (8 * (upP S.2.2.1 S.1 (k, i) j).1 + (upP S.2.2.1 S.1 (k, i) j).2))
      rw [upN_n e, show upP S.2.2.1 S.1 (k, i) j = S.2.2.1 j from if_neg e]
      exact ⟨(pk_un e).trans b1, fun h0 => (pk_un e).trans (b2 h0)⟩
  · show bl (vp_updL gs on _ on2) up2 = memB (upN S.2.1 S.1 (64 * on + up)) (64 * on2 + up2) (S.1 + 1)
    rw [memB_up]
    by_cases e : on2 = on
    · subst e
      rw [show vp_updL gs on2 (gs on2 ||| ((1 : Int64) <<< ((nI up).toInt64 &&& 63))) on2 = gs on2 ||| ((1 : Int64) <<< ((nI up).toInt64 &&& 63)) from if_pos rfl, bl_or, bl_bit up hup, a2 on2 up2 ho2 hu2]
      by_cases e2 : up2 = up
      · subst e2; rw [decide_eq_true rfl, decide_eq_true rfl, Bool.or_true, Bool.true_or]
      · rw [decide_eq_false e2, decide_eq_false (by omega), Bool.or_false, Bool.false_or]
    · rw [show vp_updL gs on (gs on ||| ((1 : Int64) <<< ((nI up).toInt64 &&& 63))) on2 = gs on2 from if_neg e, a2 on2 up2 ho2 hu2, decide_eq_false (by omega), Bool.false_or]
theorem CR.room {val : Nat → Prop} {S : BS} {gq go : Nat → Int32} {gs : Nat → Int64} (h : CR val S gq go gs) {on up : Nat} (hon : on < 32) (hup : up < 64) (hb : bl (gs on) up = false) : S.1 < 2048 := by
  obtain ⟨a1, a2, gF, gr, gf, gb, hA⟩ := h
  exact hA.room (show 64 * on + up < 2048 by omega) ((a2 on up hon hup).symm.trans hb)
set_option maxHeartbeats 8000000 in
theorem exploreI {l : Launch} {G : GG} {nx : Nat} {Post : Option Value → AH → Nat → Prop} {II : AH → Prop} {val : Nat → Prop} {v u qq qo qn nIn nR k x : Nat} {nxs : Nat → Nat → Nat} {S : BS} {a b wa ver cm : Int32} (hX : XC G ∧ TX l G) (hIu : ∀ h1, II h1 → ∃ fu, h1 u = some (.inr (3, fu))) (hIk : ∀ (h1 : AH) (a : Nat) (e : AE), a = v ∨ a = qq ∨ a = qo ∨ a = qn → II h1 → II (uph h1 a e)) (hic : ∀ (h1 : AH) {Q : Option Value → AH → Nat → Prop}, II h1 → Q (some (.int (nI nIn))) h1 nx → Runs l G i_X3_inputCount 0 0 [.ref u] h1 nx Q) (hset : ∀ (h1 : AH) (on x : Nat) {Q : Option Value → AH → Nat → Prop}, II h1 → on < 2 ^ nIn → val x → (∀ h2, II h2 → (∀ a, a = v ∨ a = qq ∨ a = qo ∨ a = qn → h2 a = h1 a) → Q (some (.int (stF (nxs on) nR (x % 64)))) h2 nx) → Runs l G i_X3_settle 0 0 [.ref u, .int (nI on), .int (nI x)] h1 nx Q) (hval : ∀ x, val x → x < 2048 ∧ x / 64 < 2 ^ nIn ∧ x % 64 < 2 ^ nR) (hvn : ∀ x i y, val x → i < nIn → nbF nR nxs x i = some y → val y) (hIn : nIn ≤ 5) (hR6 : nR ≤ 6) (hnx : ∀ on u, nxs on u < 2 ^ nR) (hqo : qo ≠ qq) (hx : val x) (hS : 0 < S.1) : ∀ (n i : Nat) (h1 : AH) (fs : List Value) (gq go : Nat → Int32) (gs : Nat → Int64), i + n = nIn → II h1 → CX h1 v u fs qq qo qn (bI (nbF nR nxs) k x i S) wa ver cm gq go gs → CR val (bI (nbF nR nxs) k x i S) gq go gs → (∀ (h1 : AH) (fs : List Value) (gq go : Nat → Int32) (gs : Nat → Int64), II h1 → CX h1 v u fs qq qo qn (bI (nbF nR nxs) k x nIn S) wa ver cm gq go gs → CR val (bI (nbF nR nxs) k x nIn S) gq go gs → Go l G 7 s_X7_explore 0 0 Post 182 [(3, .int (nI k)), (0, .ref v), (1, .int a), (2, .int b)] [] h1 nx 0 0) → Go l G 7 s_X7_explore 0 0 Post 106 [(5, .int (nI i)), (4, .int (nI x)), (3, .int (nI k)), (0, .ref v), (1, .int a), (2, .int b)] [] h1 nx 0 0 := by
  have hp : 2 ^ nR ≤ 64 := Nat.pow_le_pow_right (n := 2) (by decide) hR6
  have hpi : 2 ^ nIn ≤ 32 := Nat.pow_le_pow_right (n := 2) (by decide) hIn
  obtain ⟨hx1, hx2, hx3⟩ := hval x hx
  intro n
  induction n with
  | zero =>
    intro i h1 fs gq go gs hi hI hC hR K1
    have ei : i = nIn := by omega
    obtain ⟨c0, c9, c1, c2, c3, c4, c5, c6, c7, c8, c10, r1, r2, r3⟩ := id hC
    obtain ⟨fu, hu⟩ := hIu h1 hI
    refine Go.of hX.2 ck_X7_explore [182] 40 ?_
    refine Exists.intro _ (And.intro c0 (Exists.intro _ (And.intro c1 ?_)))
    refine Exists.intro _ (And.intro hu (Exists.intro 0 (Exists.intro 0 (And.intro (Nat.le_refl _) (And.intro (Nat.le_refl _) (hic h1 hI ?_))))))
    refine And.intro (fun _ => ?_) (fun cz => absurd (nI_le (by omega) (by omega)) cz)
    rw [ei] at hC hR
    exact go_loc (lv' := [(3, .int (nI k)), (0, .ref v), (1, .int a), (2, .int b)]) ⟨rfl, rfl, rfl, rfl, trivial⟩ (K1 h1 fs gq go gs hI hC hR)
  | succ n ih =>
    intro i h1 fs gq go gs hi hI hC hR K1
    have hiI : i < nIn := by omega
    obtain ⟨c0, c9, c1, c2, c3, c4, c5, c6, c7, c8, c10, r1, r2, r3⟩ := id hC
    obtain ⟨fu, hu⟩ := hIu h1 hI
    have hon : x / 64 ^^^ 2 ^ i < 2 ^ nIn := Nat.xor_lt_two_pow hx2 (Nat.pow_lt_pow_right (by decide) hiI)
    have e8 : (nI x >>> ((6 : Int32) &&& 31)) ^^^ ((1 : Int32) <<< (nI i &&& 31)) = nI (x / 64 ^^^ 2 ^ i) := by rw [show (6 : Int32) = nI 6 from rfl, nx_shr (by omega) (by decide), nx_pow (by omega), nx_xor, Nat.shiftRight_eq_div_pow]
    refine Go.of hX.2 ck_X7_explore [106] 120 ?_
    refine Exists.intro _ (And.intro c0 (Exists.intro _ (And.intro c1 ?_)))
    refine Exists.intro _ (And.intro hu (Exists.intro 0 (Exists.intro 0 (And.intro (Nat.le_refl _) (And.intro (Nat.le_refl _) (hic h1 hI ?_))))))
    refine And.intro (fun cz => absurd cz (nI_ge hiI (by omega))) (fun _ => ?_)
    refine Exists.intro _ (And.intro c0 (Exists.intro _ (And.intro c1 ?_)))
    refine Exists.intro _ (And.intro hu (Exists.intro 0 (Exists.intro 0 (And.intro (Nat.le_refl _) (And.intro (Nat.le_refl _) ?_)))))
    rw [e8]
    refine hset h1 _ x hI hon hx (fun h2 hI2 hag => ?_)
    have hC2 : CX h2 v u fs qq qo qn (bI (nbF nR nxs) k x i S) wa ver cm gq go gs := ⟨(hag v (Or.inl rfl)).trans c0, c9, c1, c2, c3, c4, c5, c6, c7, c8, c10, (hag qq (Or.inr (Or.inl rfl))).trans r1, (hag qo (Or.inr (Or.inr (Or.inl rfl)))).trans r2, (hag qn (Or.inr (Or.inr (Or.inr rfl)))).trans r3⟩
    by_cases hr : stF (nxs (x / 64 ^^^ 2 ^ i)) nR (x % 64) = -2
    · have hb : bI (nbF nR nxs) k x (i + 1) S = ((bI (nbF nR nxs) k x i S).1, (bI (nbF nR nxs) k x i S).2.1, (bI (nbF nR nxs) k x i S).2.2.1, (bI (nbF nR nxs) k x i S).2.2.2 + 1) := by
        have hn : nbF nR nxs x i = none := if_pos hr
        show (match nbF nR nxs x i with | none => ((bI (nbF nR nxs) k x i S).1, (bI (nbF nR nxs) k x i S).2.1, (bI (nbF nR nxs) k x i S).2.2.1, (bI (nbF nR nxs) k x i S).2.2.2 + 1) | some y => bAdd (bI (nbF nR nxs) k x i S) y k i) = _
        rw [hn]
      refine And.intro (fun cz => absurd (hr ▸ cz) (by decide)) (fun _ => ?_)
      refine Exists.intro _ (And.intro hC2.1 (Exists.intro _ (And.intro c6 ?_)))
      refine Exists.intro _ (And.intro hC2.1 (And.intro (by omega) (And.intro rfl (And.intro rfl ?_))))
      refine go_loc (lv' := [(5, .int (nI i + 1)), (4, .int (nI x)), (3, .int (nI k)), (0, .ref v), (1, .int a), (2, .int b)]) ⟨rfl, rfl, rfl, rfl, rfl, rfl, trivial⟩ ?_
      rw [← nI_succ, ← nI_succ]
      have nv1 : qq ≠ v := fun e => by have := hC2.1; rw [← e, hC2.2.2.2.2.2.2.2.2.2.2.2.1] at this; cases this
      have nv2 : qo ≠ v := fun e => by have := hC2.1; rw [← e, hC2.2.2.2.2.2.2.2.2.2.2.2.2.1] at this; cases this
      have nv3 : qn ≠ v := fun e => by have := hC2.1; rw [← e, hC2.2.2.2.2.2.2.2.2.2.2.2.2.2] at this; cases this
      refine ih (i + 1) _ (fs.set 5 (.int (nI ((bI (nbF nR nxs) k x i S).2.2.2 + 1)))) gq go gs (by omega) (hIk _ v _ (Or.inl rfl) hI2) ?_ (by rw [hb]; exact hR) K1
      rw [hb]
      exact ⟨uph_eq, by rw [List.length_set]; exact c9, (get_set_ne (by decide)).trans c1, (get_set_ne (by decide)).trans c2, (get_set_ne (by decide)).trans c3, (get_set_ne (by decide)).trans c4, (get_set_ne (by decide)).trans c5, get_set (by omega), (get_set_ne (by decide)).trans c7, (get_set_ne (by decide)).trans c8, (get_set_ne (by decide)).trans c10, (uph_ne nv1).trans hC2.2.2.2.2.2.2.2.2.2.2.2.1, (uph_ne nv2).trans hC2.2.2.2.2.2.2.2.2.2.2.2.2.1, (uph_ne nv3).trans hC2.2.2.2.2.2.2.2.2.2.2.2.2.2⟩
    · obtain ⟨s, hs, hv⟩ : ∃ s, s < 2 ^ nR ∧ stF (nxs (x / 64 ^^^ 2 ^ i)) nR (x % 64) = nI s := by
        by_cases hex : ∃ s, ST (nxs (x / 64 ^^^ 2 ^ i)) nR (x % 64) s
        · obtain ⟨s, hst⟩ := hex
          obtain ⟨m, hm⟩ := id hst
          exact ⟨s, ST_lt (hnx _) hx3 hm, stF_some (hnx _) hst⟩
        · exact absurd (stF_none (fun s hst => hex ⟨s, hst⟩)) hr
      have hn : nbF nR nxs x i = some (64 * (x / 64 ^^^ 2 ^ i) + s) := by
        unfold nbF
        rw [if_neg hr, hv, nI_clamp (by omega)]
      have hb : bI (nbF nR nxs) k x (i + 1) S = bAdd (bI (nbF nR nxs) k x i S) (64 * (x / 64 ^^^ 2 ^ i) + s) k i := by
        show (match nbF nR nxs x i with | none => _ | some y => bAdd (bI (nbF nR nxs) k x i S) y k i) = _
        rw [hn]
      have hyv := hvn x i _ hx hiI hn
      rw [hv]
      refine And.intro (fun _ => ?_) (fun cz => absurd (nI_pos' (by omega)) cz)
      have e10 : (8 : Int32) * nI k + nI i = nI (8 * k + i) := by rw [show (8 : Int32) = nI 8 from rfl, nI_mul, nI_add]
      refine Exists.intro _ (And.intro hC2.1 (Exists.intro 0 (Exists.intro 0 (And.intro (Nat.le_refl _) (And.intro (Nat.le_refl _) ?_)))))
      rw [e10]
      have hmb := hR.2.1 (x / 64 ^^^ 2 ^ i) s (by omega) (by omega)
      refine c_reachX hX hC2.1 c9 c2 c3 c4 c5 hC2.2.2.2.2.2.2.2.2.2.2.2.2.2 hC2.2.2.2.2.2.2.2.2.2.2.2.1 hC2.2.2.2.2.2.2.2.2.2.2.2.2.1 hqo (by omega) (by omega) (fun z => hR.room (by omega) (by omega) z) (fun hz => ?_) (fun hz => ?_)
      · have hbe : bAdd (bI (nbF nR nxs) k x i S) (64 * (x / 64 ^^^ 2 ^ i) + s) k i = bI (nbF nR nxs) k x i S := if_pos (hmb.symm.trans hz)
        refine go_loc (lv' := [(5, .int (nI i + 1)), (4, .int (nI x)), (3, .int (nI k)), (0, .ref v), (1, .int a), (2, .int b)]) ⟨rfl, rfl, rfl, rfl, rfl, rfl, trivial⟩ ?_
        rw [← nI_succ]
        exact ih (i + 1) h2 fs gq go gs (by omega) hI2 (by rw [hb, hbe]; exact hC2) (by rw [hb, hbe]; exact hR) K1
      · have hm := hmb.symm.trans hz
        have hbe : bAdd (bI (nbF nR nxs) k x i S) (64 * (x / 64 ^^^ 2 ^ i) + s) k i = ((bI (nbF nR nxs) k x i S).1 + 1, upN (bI (nbF nR nxs) k x i S).2.1 (bI (nbF nR nxs) k x i S).1 (64 * (x / 64 ^^^ 2 ^ i) + s), upP (bI (nbF nR nxs) k x i S).2.2.1 (bI (nbF nR nxs) k x i S).1 (k, i), (bI (nbF nR nxs) k x i S).2.2.2) := if_neg (by rw [hm]; decide)
        have nv1 : qq ≠ v := fun e => by have := hC2.1; rw [← e, hC2.2.2.2.2.2.2.2.2.2.2.2.1] at this; cases this
        have nv2 : qo ≠ v := fun e => by have := hC2.1; rw [← e, hC2.2.2.2.2.2.2.2.2.2.2.2.2.1] at this; cases this
        have nv3 : qn ≠ v := fun e => by have := hC2.1; rw [← e, hC2.2.2.2.2.2.2.2.2.2.2.2.2.2] at this; cases this
        have nq1 : qn ≠ qq := fun e => by have := hC2.2.2.2.2.2.2.2.2.2.2.2.1; rw [← e, hC2.2.2.2.2.2.2.2.2.2.2.2.2.2] at this; cases this
        have nq2 : qn ≠ qo := fun e => by have := hC2.2.2.2.2.2.2.2.2.2.2.2.2.1; rw [← e, hC2.2.2.2.2.2.2.2.2.2.2.2.2.2] at this; cases this
        refine go_loc (lv' := [(5, .int (nI i + 1)), (4, .int (nI x)), (3, .int (nI k)), (0, .ref v), (1, .int a), (2, .int b)]) ⟨rfl, rfl, rfl, rfl, rfl, rfl, trivial⟩ ?_
        rw [← nI_succ]
        refine ih (i + 1) _ (fs.set 4 (.int (nI ((bI (nbF nR nxs) k x i S).1 + 1)))) _ _ _ (by omega) (hIk _ v _ (Or.inl rfl) (hIk _ qo _ (Or.inr (Or.inr (Or.inl rfl))) (hIk _ qq _ (Or.inr (Or.inl rfl)) (hIk _ qn _ (Or.inr (Or.inr (Or.inr rfl))) hI2)))) ?_ (by rw [hb]; exact hR.add (by omega) (by omega) hyv hm (by have := (bI_mono (nbF nR nxs) k x S i).1; omega)) K1
        rw [hb, hbe]
        exact ⟨uph_eq, by rw [List.length_set]; exact c9, (get_set_ne (by decide)).trans c1, (get_set_ne (by decide)).trans c2, (get_set_ne (by decide)).trans c3, (get_set_ne (by decide)).trans c4, get_set (by omega), (get_set_ne (by decide)).trans c6, (get_set_ne (by decide)).trans c7, (get_set_ne (by decide)).trans c8, (get_set_ne (by decide)).trans c10, by rw [uph_ne nv1, uph_ne (Ne.symm hqo)]; exact uph_eq, by rw [uph_ne nv2]; exact uph_eq, by rw [uph_ne nv3, uph_ne nq2, uph_ne nq1]; exact uph_eq⟩
