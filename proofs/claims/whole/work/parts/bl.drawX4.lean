/-! x's drawing of a text is the text's drawing -/
theorem nvF_cg {lp : Nat → Nat} {P Q : Nat → Bool} : ∀ {n : Nat}, (∀ k, k < n → P k = Q k) → nvF lp P n = nvF lp Q n
  | 0, _ => rfl
  | n + 1, h => by
    show nvF lp P n ||| (if P n = true then 2 ^ lp n else 0) = nvF lp Q n ||| (if Q n = true then 2 ^ lp n else 0)
    rw [nvF_cg (fun k hk => h k (by omega)), h n (Nat.lt_succ_self n)]
theorem sel_c {on up v : Nat} {b : Bool} (hup : up < 64) : ((decide (6 ≤ v) && ((64 * on).testBit v ^^ b)) || (decide (v < 6) && (up.testBit v ^^ b))) = ((64 * on + up).testBit v ^^ b) := by
  rw [show (64 : Nat) = 2 ^ 6 from rfl, Nat.testBit_two_pow_mul_add _ (show up < 2 ^ 6 by omega)]
  have e0 := Nat.testBit_two_pow_mul_add on (show 0 < 2 ^ 6 by decide) v
  rw [Nat.add_zero] at e0
  rw [e0]
  by_cases c : v < 6
  · rw [if_pos c, decide_eq_false (show ¬ 6 ≤ v by omega), decide_eq_true c, Bool.false_and, Bool.false_or, Bool.true_and, if_pos c]
  · rw [if_neg c, if_neg c, decide_eq_true (show 6 ≤ v by omega), decide_eq_false c, Bool.false_and, Bool.or_false, Bool.true_and]
section XM
variable {kd : Nat → Nat} {vl : Nat → Int64} {N : Nat}
theorem own13 (h : TXT kd N) {j : Nat} (hj : j < N) (hk : kd j = 13) : ownZ (zz kd j) < 11 ∧ cirB (zR (zz kd N)) (zL (zz kd N)) (ownZ (zz kd j)) = true := by
  obtain ⟨_, _, _, _, _, _, _, _, q9⟩ := h.q13 hj hk
  obtain ⟨_, m2, m3, _⟩ := h.mo (show j ≤ N by omega) (Nat.le_refl N)
  unfold ownZ cirB
  rcases q9 with ⟨a, b, c⟩ | ⟨a, _, b, c⟩
  · rw [if_pos a, if_pos (by omega)]
    exact ⟨by omega, decide_eq_true (by omega)⟩
  · rw [if_neg (by omega), if_neg (by omega)]
    exact ⟨by omega, decide_eq_true (by omega)⟩
/-- the kinds of the inputs told -/
def stI (kd : Nat → Nat) (N x : Nat) : Nat := iS kd N N (11 + x)
def vrK (kd : Nat → Nat) (vl : Nat → Int64) (N k : Nat) : Nat := vcT kd vl N (tkK kd N k)
def ivK (kd : Nat → Nat) (vl : Nat → Int64) (N k : Nat) : Bool := decide (zS (zz kd (tkK kd N k)) = 11) ^^ (trB (stI kd N) 5).testBit (vrK kd vl N k)
theorem stI_e {k : Nat} (hk : k < zI (zz kd N)) : stI kd N k = zT (zz kd (tkI kd N k)) := by
  unfold stI iS
  rw [if_neg (by omega), if_neg (by omega), if_pos (by omega), Nat.add_sub_cancel_left]
theorem vc_e (h : TXT kd N) (hF : ∀ i, i < N → fX kd vl N i = 0) {i : Nat} (hi : i < N) (h10 : zS (zz kd i) = 10 ∨ zS (zz kd i) = 11) (hk : kd i = 2) : vcT kd vl N i < 6 + zI (zz kd N) ∧ thT kd vl N i = if vcT kd vl N i < 6 then 10 + vcT kd vl N i else vcT kd vl N i - 6 := by
  obtain ⟨v, hv⟩ := named_c h hF hi h10 hk
  obtain ⟨_, _, _, b1, b2, _⟩ := h.w (Nat.le_refl N)
  unfold vcT thT
  rw [hv]
  refine ⟨?_, rfl⟩
  show v < _
  rcases zVr_c h hv with ⟨t, a1, a2, a3, a4, a5⟩ | ⟨t, a1, a2, a3, a4, a5⟩ <;> omega
theorem lf_e (h : TXT kd N) (hF : ∀ i, i < N → fX kd vl N i = 0) {st5 : Nat → Bool} {i on up : Nat} (hi : i < N) (h10 : zS (zz kd i) = 10 ∨ zS (zz kd i) = 11) (hk : kd i = 2) (hup : up < 64) : ((64 * on + up).testBit (vcT kd vl N i) ^^ (trB (stI kd N) 5).testBit (vcT kd vl N i)) = thv (trT kd N st5) on up (thT kd vl N i) := by
  obtain ⟨a, b⟩ := vc_e h hF hi h10 hk
  obtain ⟨_, _, _, b1, b2, _⟩ := h.w (Nat.le_refl N)
  rw [b]
  exact leaf_c a b1 (fun k hk => by
    unfold trT
    rw [if_pos hk, stI_e hk]) hup
theorem con_K (h : TXT kd N) (hF : ∀ i, i < N → fX kd vl N i = 0) {cc : Nat} {g3 g4 g5 g10 g18 gv gb gi wc wo : Nat → Int32} (t3 : ∀ j, j < N → kd j = 13 → cirX kd (vcT kd vl N) N (trB (stI kd N) 5) j cc g3 g4 g5 g10 g18 gv gb gi wc wo) {k : Nat} (hk : k < zK (zz kd N)) : g18 k = nI (ownZ (zz kd (tkK kd N k))) ∧ gv k = nI (vrK kd vl N k) ∧ gb k = nI (decide (zS (zz kd (tkK kd N k)) = 11)).toNat ∧ gi k = nI (ivK kd vl N k).toNat ∧ ownZ (zz kd (tkK kd N k)) < 11 ∧ tkK kd N k < N ∧ (zS (zz kd (tkK kd N k)) = 10 ∨ zS (zz kd (tkK kd N k)) = 11) ∧ kd (tkK kd N k) = 2 := by
  obtain ⟨j, x, j1, j2, hx, hi, c2, tk, ek, eo, ec, q2, q8, hlt⟩ := in_K h hk
  obtain ⟨c0, _, _, _, _, z10, z18, zw, _⟩ := t3 j j1 j2
  obtain ⟨u1, u2, u3⟩ := zw x (Nat.zero_le _) hx c2
  rw [ek] at u1 u2 u3
  rw [ntW_c h (show j + 1 ≤ N by omega) q2 q8 hx] at u2 u3
  unfold ivK vrK
  rw [tk]
  exact ⟨by rw [eo]; exact z18 k (by omega) (by omega), u1, u2, u3, by rw [eo]; exact (own13 h j1 j2).1, hi, (zC_S ec).1, c2⟩
theorem XD_mk {h : AH} {d cc : Nat} {st5 : Nat → Bool} {g2 g3 g4 g5 g10 gv gb gi wc wo g18 g19 g27 g28 : Nat → Int32} {g1 gI gR : Nat → Int64} (hT : TXT kd N) (hN : N ≤ 400) (hF : ∀ i, i < N → fX kd vl N i = 0) (hv2 : ∀ i, kd i = 2 → 0 < vl i)
    (e0 : h d = some (.inr (0, dwF d (zI (zz kd N)) (zR (zz kd N)) (zL (zz kd N)) (zK (zz kd N)) (zV (zz kd N)) cc (fP (zK (zz kd N)) (zR (zz kd N)) (fun k => ownZ (zz kd (tkK kd N k))) 212).length)))
    (e6 : h (d + 6) = some (.inr (10, wiF (d + 7) 40))) (e1 : h (d + 1) = some (.inl (1, 16, .inr (.inl g1)))) (e2 : h (d + 2) = some (.inl (0, 16, .inl g2))) (e3 : h (d + 3) = some (.inl (0, 400, .inl g3))) (e4 : h (d + 4) = some (.inl (0, 11, .inl g4))) (e5 : h (d + 5) = some (.inl (0, 11, .inl g5))) (e10 : h (d + 10) = some (.inl (0, 11, .inl g10))) (e11 : h (d + 11) = some (.inl (1, 32, .inr (.inl gI)))) (e12 : h (d + 12) = some (.inl (1, 64, .inr (.inl gR)))) (e13 : h (d + 13) = some (.inl (0, 40, .inl gv))) (e14 : h (d + 14) = some (.inl (0, 40, .inl gb))) (e16 : h (d + 16) = some (.inl (0, 40, .inl wc))) (e17 : h (d + 17) = some (.inl (0, 40, .inl wo))) (e18 : h (d + 18) = some (.inl (0, 40, .inl g18))) (e19 : h (d + 19) = some (.inl (0, 132, .inl g19))) (e27 : h (d + 27) = some (.inl (0, 64 * 2 ^ zI (zz kd N), .inl g27))) (e28 : h (d + 28) = some (.inl (2, 64 * 2 ^ zI (zz kd N), .inl g28)))
    (hcc : cc ≤ N) (n1 : ∀ x, x < 16 → g1 x = iN kd vl N N x) (t1 : ∀ x, 6 ≤ x → x < 16 → g2 x = nI (iS kd N N x)) (t2 : ∀ r, r < 6 → g2 r = nI (slI kd vl N r)) (t3 : ∀ j, j < N → kd j = 13 → cirX kd (vcT kd vl N) N (trB (stI kd N) 5) j cc g3 g4 g5 g10 g18 gv gb gi wc wo) (t4 : ∀ c, c < 11 → (∀ j, j < N → kd j = 13 → ownZ (zz kd j) ≠ c) → g4 c = 0 ∧ g5 c = 0)
    (l19 : rowL g19 (fP (zK (zz kd N)) (zR (zz kd N)) (fun k => ownZ (zz kd (tkK kd N k))) 212))
    (pI : ∀ x j, x < 32 → j < 64 → bl (gI x) j = (decide (j < zK (zz kd N)) && (decide (6 ≤ vrK kd vl N j) && ((64 * x).testBit (vrK kd vl N j) ^^ ivK kd vl N j)))) (pR : ∀ x j, x < 64 → j < 64 → bl (gR x) j = (decide (j < zK (zz kd N)) && (decide (vrK kd vl N j < 6) && (x.testBit (vrK kd vl N j) ^^ ivK kd vl N j))))
    (p27 : ∀ on up, on < 2 ^ zI (zz kd N) → up < 64 → g27 (64 * on + up) = nI (bsum (fun c => cirB (zR (zz kd N)) (zL (zz kd N)) c && decide (wk wc wo (gI on ||| gR up) 40 40 (g10 c) = -1)) 11))
    (p28 : ∀ w, w < 64 * 2 ^ zI (zz kd N) → g28 w = nI (nvF (lpW kd vl N) (fun k => NVw kd vl N (trB (stI kd N) 5) k w) (zV (zz kd N)))) : XD h d (mkD kd vl N st5) := by
  obtain ⟨_, _, _, b1, b2, b3, b4, b5, _⟩ := hT.w (Nat.le_refl N)
  have hpi : 2 ^ zI (zz kd N) ≤ 32 := Nat.pow_le_pow_right (n := 2) (by decide) b1
  have q3 : ∀ c z, c < 11 → cirB (zR (zz kd N)) (zL (zz kd N)) c = true → decide (wk wc wo z 40 40 (g10 c) = -1) = dCT (mkD kd vl N st5) c (bl z) := fun c z hc hcir => by
    obtain ⟨j, j1, j2, j3⟩ := hT.ex13 hcir
    have et : tkC kd N c = j + 1 := by rw [← j3]; exact tkC_c hT j1 j2
    obtain ⟨_, q2, _, _, _, q6, _, q8, q9⟩ := hT.q13 j1 j2
    obtain ⟨s1, s2, s3, s4, s5, s6⟩ := seg_c hT (show j + 1 ≤ N by omega) q2 q8
    obtain ⟨c0, _, _, _, _, z10, _, _, zo⟩ := t3 j j1 j2
    rw [j3] at z10
    have sk := (s5 _ (Nat.le_refl _)).2.2.2.2.2.2
    have sT := (hT.q13 j1 j2).2.2.1
    rw [if_neg (by omega)] at sk
    have m := (hT.mo (show j + 1 + cLc kd N (j + 1) ≤ N by omega) (Nat.le_refl N)).2.2.2.2
    show _ = (cirB (zR (zz kd N)) (zL (zz kd N)) c && CTk (sqL kd (tkC kd N c) (cLc kd N (tkC kd N c))) (zK (zz kd (tkC kd N c))) (bl z))
    rw [hcir, Bool.true_and, et, z10, wk_P, walk_CT (by decide) s1 zo (by omega) 40 (by omega)]
    cases CTk (sqL kd (j + 1) (cLc kd N (j + 1))) (zK (zz kd (j + 1))) (bl z) <;> rfl
  have q4 : ∀ on up k, on < 2 ^ zI (zz kd N) → up < 64 → k < 64 → bl (gI on ||| gR up) k = (decide (k < zK (zz kd N)) && tgW (dof (mkD kd vl N st5)) (dnt (mkD kd vl N st5)) (dtr (mkD kd vl N st5)) on up k) := fun on up k hon hup hk => by
    rw [bl_or, pI on k (by omega) hk, pR up k hup hk]
    by_cases c : k < zK (zz kd N)
    · obtain ⟨_, _, _, _, _, w1, w2, w3⟩ := con_K hT hF t3 c
      have lf := lf_e (st5 := st5) (on := on) hT hF w1 w2 w3 hup
      rw [decide_eq_true c, Bool.true_and, Bool.true_and, Bool.true_and, sel_c hup]
      show _ = (thv (trT kd N st5) on up (thT kd vl N (tkK kd N k)) ^^ decide (zS (zz kd (tkK kd N k)) = 11))
      rw [← lf]
      unfold ivK vrK
      cases (64 * on + up).testBit (vcT kd vl N (tkK kd N k)) <;> cases decide (zS (zz kd (tkK kd N k)) = 11) <;> cases (trB (stI kd N) 5).testBit (vcT kd vl N (tkK kd N k)) <;> rfl
    · rw [decide_eq_false c, Bool.false_and, Bool.false_and, Bool.false_and]
      rfl
  refine ⟨cc, g2, g3, g4, g5, g10, gv, gb, wc, wo, g18, g19, g27, g28, g1, gI, gR, e0, e6, e1, e2, e3, e4, e5, e10, e11, e12, e13, e14, e16, e17, e18, e19, e27, e28, fun k hk => ?_, fun r hr => t2 r (Nat.lt_of_lt_of_le (show r < zR (zz kd N) from hr) b2), q3, q4, fun on up hon hup => ?_, fun w hw => ?_, l19, fun x hx => ⟨n1 x hx, ?_⟩, fun c hc => ?_⟩
  · have hk : k < zK (zz kd N) := hk
    obtain ⟨v1, v2, v3, _, _, w1, w2, w3⟩ := con_K hT hF t3 hk
    obtain ⟨x1, x2⟩ := vc_e hT hF w1 w2 w3
    refine ⟨v1, ?_, v3⟩
    rw [v2]
    show nI (vrK kd vl N k) = nI (if thT kd vl N (tkK kd N k) < 5 then 6 + thT kd vl N (tkK kd N k) else thT kd vl N (tkK kd N k) - 10)
    rw [x2]
    unfold vrK
    congr 1
    by_cases c : vcT kd vl N (tkK kd N k) < 6
    · rw [if_pos c, if_neg (by omega)]; omega
    · rw [if_neg c, if_pos (by omega)]; omega
  · rw [p27 on up hon hup]
    congr 1
    refine bsum_congr (fun c hc => ?_)
    show _ = (cirB (zR (zz kd N)) (zL (zz kd N)) c && _)
    cases hcir : cirB (zR (zz kd N)) (zL (zz kd N)) c with
    | false => rfl
    | true =>
      rw [Bool.true_and, Bool.true_and, q3 c _ hc hcir]
      obtain ⟨j, j1, j2, j3⟩ := hT.ex13 hcir
      have et : tkC kd N c = j + 1 := by rw [← j3]; exact tkC_c hT j1 j2
      obtain ⟨_, r2, r3, _, _, r6, _, r8, r9⟩ := hT.q13 j1 j2
      obtain ⟨s1, s2, s3, s4, s5, s6⟩ := seg_c hT (show j + 1 ≤ N by omega) r2 r8
      have sk := (s5 _ (Nat.le_refl _)).2.2.2.2.2.2
      rw [if_neg (by omega)] at sk
      have m := (hT.mo (show j + 1 + cLc kd N (j + 1) ≤ N by omega) (Nat.le_refl N)).2.2.2.2
      show (cirB (zR (zz kd N)) (zL (zz kd N)) c && CTk (sqL kd (tkC kd N c) (cLc kd N (tkC kd N c))) (zK (zz kd (tkC kd N c))) (bl (gI on ||| gR up))) = (cirB (zR (zz kd N)) (zL (zz kd N)) c && CTk (sqL kd (tkC kd N c) (cLc kd N (tkC kd N c))) (zK (zz kd (tkC kd N c))) _)
      rw [et]
      congr 1
      exact CTk_congr (fun k k1 k2 => q4 on up k hon hup (by omega))
  · have hw : w < 64 * 2 ^ zI (zz kd N) := hw
    rw [p28 w hw]
    congr 1
    refine nvF_cg (fun k hk => ?_)
    obtain ⟨i, hi, c1, c2, c3, c4, c5, c6, c7, c8, c9⟩ := exX hT hk
    obtain ⟨s1, s2, s3, s4, s5, s6⟩ := seg_c hT (show i + 2 ≤ N by omega) c7 c9
    show NVw kd vl N (trB (stI kd N) 5) k w = NVt kd vl N (trT kd N st5) k (w / 64) (w % 64)
    unfold NVw NVt
    rw [c5]
    refine CTk_congr (fun n n1 n2 => ?_)
    rw [Nat.zero_add] at n2
    obtain ⟨x, x1, x2, x3⟩ := nm_ex n2
    have ea := nmL_at x2 (cLc kd N (i + 2)) x1
    rw [x3] at ea
    rw [ea]
    obtain ⟨s, h1, h2, _, _⟩ := hT.st (show i + 2 + x < N by omega)
    have h10 := (s5 x (by omega)).2.2.2.2.2.1
    have hz := zfr h2 h10 h1
    have lf := lf_e (st5 := st5) (on := w / 64) hT hF (show i + 2 + x < N by omega) (by omega) x2 (Nat.mod_lt w (show 0 < 64 by decide))
    rw [Nat.div_add_mod] at lf
    rw [← lf]
    unfold lfW
    cases w.testBit (vcT kd vl N (i + 2 + x)) <;> cases decide (zS (zz kd (i + 2 + x)) = 11) <;> cases (trB (stI kd N) 5).testBit (vcT kd vl N (i + 2 + x)) <;> rfl
  · unfold itS
    by_cases c6 : x < 6
    · rw [if_pos c6, t2 x c6]
      congr 1
      show slT kd vl N x = if x < zR (zz kd N) then slT kd vl N x else 0
      by_cases cr : x < zR (zz kd N)
      · rw [if_pos cr]
      · rw [if_neg cr]
        exact slT_0 (fun i i1 i2 i3 => by
          have := (hT.mo (show i ≤ N by omega) (Nat.le_refl N)).2.1
          omega)
    · rw [if_neg c6, t1 x (by omega) hx]
      unfold iS
      rw [if_neg c6]
      congr 1
      by_cases c11 : x < 11
      · rw [if_pos c11, if_pos c11]
        show _ = if x - 6 < zL (zz kd N) then (if decide (zT (zz kd (tkL kd N (x - 6))) = 9) = true then 9 else 8) else 0
        by_cases cl : x - 6 < zL (zz kd N)
        · rw [if_pos cl, if_pos cl]
          obtain ⟨t, y1, y2, y3, y4, y5⟩ := exL hT cl
          rw [y5]
          have := (hT.s7 y1 y2).2.2.2.2
          by_cases c9 : zT (zz kd t) = 9
          · rw [if_pos (decide_eq_true c9)]; exact c9
          · rw [if_neg (fun z => c9 (of_decide_eq_true z))]; omega
        · rw [if_neg cl, if_neg cl]
      · rw [if_neg c11, if_neg c11]
        show _ = if x - 11 < zI (zz kd N) then (if (if x - 11 < zI (zz kd N) then decide (zT (zz kd (tkI kd N (x - 11))) = 5) else st5 (x - 11)) = true then 5 else 4) else 0
        by_cases cl : x - 11 < zI (zz kd N)
        · rw [if_pos cl, if_pos cl, if_pos cl]
          obtain ⟨t, y1, y2, y3, y4, y5⟩ := exI hT cl
          rw [y5]
          obtain ⟨_, _, _, _, _, _, _, _, w9, w10, _⟩ := hT.w (show t ≤ N by omega)
          have := w10 (Or.inl y2)
          by_cases c9 : zT (zz kd t) = 5
          · rw [if_pos (decide_eq_true c9)]; exact c9
          · rw [if_neg (fun z => c9 (of_decide_eq_true z))]; omega
        · rw [if_neg cl, if_neg cl]
  · show ∃ a, g4 c = nI a ∧ g5 c = nI (a + (if cirB (zR (zz kd N)) (zL (zz kd N)) c = true then (sqL (sgT kd vl) (tkC kd N c) (cLc kd N (tkC kd N c))).length else 0)) ∧ a + (if cirB (zR (zz kd N)) (zL (zz kd N)) c = true then (sqL (sgT kd vl) (tkC kd N c) (cLc kd N (tkC kd N c))).length else 0) ≤ 400 ∧ (cirB (zR (zz kd N)) (zL (zz kd N)) c = true → ∀ i, i < (sqL (sgT kd vl) (tkC kd N c) (cLc kd N (tkC kd N c))).length → g3 (a + i) = nI (cdF (mkD kd vl N st5) ((sqL (sgT kd vl) (tkC kd N c) (cLc kd N (tkC kd N c))).getD i 0)))
    rw [sqL_len]
    by_cases hcir : cirB (zR (zz kd N)) (zL (zz kd N)) c = true
    · obtain ⟨j, j1, j2, j3⟩ := hT.ex13 hcir
      have et : tkC kd N c = j + 1 := by rw [← j3]; exact tkC_c hT j1 j2
      obtain ⟨_, r2, r3, _, _, r6, _, r8, r9⟩ := hT.q13 j1 j2
      obtain ⟨s1, s2, s3, s4, s5, s6⟩ := seg_c hT (show j + 1 ≤ N by omega) r2 r8
      obtain ⟨c0, z4, z5, zc, z3, _⟩ := t3 j j1 j2
      rw [j3] at z4 z5
      rw [if_pos hcir, et]
      refine ⟨c0, z4, z5, by omega, fun _ i hi => ?_⟩
      rw [sqL_at (sgT kd vl) 0 _ _ _ hi, z3 i hi]
      have k12 : kd (j + 1 + i) ≠ 12 := by have := s6 i hi; omega
      have h10 := (s5 i (by omega)).2.2.2.2.2.1
      exact (cdT_c hT hF (show j + 1 + i < N by omega) h10).1.symm.trans (code_c (st5 := st5) hT hF hv2 (show j + 1 + i < N by omega) h10 k12)
    · rw [if_neg hcir]
      obtain ⟨a4, a5⟩ := t4 c hc (fun j j1 j2 e => hcir (by rw [← e]; exact (own13 hT j1 j2).2))
      exact ⟨0, a4, a5, by decide, fun z => absurd z hcir⟩
end XM
