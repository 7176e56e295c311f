/-! x's least tests -/
/-- v is a test of n acts a -/
def encN (v n : Nat) (a : Nat → Nat) : Prop := n ≤ 12 ∧ ∀ b, v.testBit b = ((decide (40 ≤ b) && n.testBit (b - 40)) || (decide (b < 3 * n) && (a (b / 3)).testBit (b % 3)))
def encT (x : Int64) (r : Option (Nat × (Nat → Nat))) : Prop := match r with
  | none => x = -1
  | some p => ∃ v, x = lN v ∧ encN v p.1 p.2 ∧ ∀ j, j < p.1 → p.2 j < 5
theorem bkF_s {fr : Nat → Nat} : ∀ (m j : Nat), fr (bkF fr m j) = bkF fr (m + 1) j
  | 0, _ => rfl
  | m + 1, j => bkF_s m (fr j)
theorem TIn.fr {D : DD} {f : Nat} {S : BS} (h : TIn D f S) : ∀ j, 0 < j → j < S.1 → (S.2.2.1 j).1 < j := fun j a b => (h.2.1 j a b).1
theorem tD_0 (S : BS) : tD S 0 = 0 := rfl
theorem tD_pos {D : DD} {f : Nat} {S : BS} (h : TIn D f S) {j : Nat} (hj : j < S.1) (h0 : 0 < tD S j) : 0 < j ∧ tD S j = tD S (S.2.2.1 j).1 + 1 := by
  rcases Nat.eq_zero_or_pos j with e | e
  · rw [e, tD_0] at h0
    exact absurd h0 (Nat.lt_irrefl 0)
  · exact ⟨e, dpF_s (fr := fun i => (S.2.2.1 i).1) h.fr e hj⟩
set_option maxHeartbeats 8000000 in
theorem x_testTo {l : Launch} {G : GG} {h : AH} {nx : Nat} {Post : Option Value → AH → Nat → Prop} {w qa q0 k act f : Nat} {D : DD} {S : BS} (hX : XC G ∧ TX l G) (hR : TRh h w qa q0 S) (hw : WD D) (hv : QV q0) (hI : TIn D f S) (hk : k < S.1) (ha : act < dI D) (h12 : tD S k < 12) (hP : ∀ v : Nat, encN v (tD S k + 1) (tActs S k act) → Post (some (.long (lN v))) h nx) : Runs l G i_X9_testTo 0 0 [.ref (w + 52), .int (nI k), .int (nI act), .int (nI (tD S k))] h nx Post := by
  obtain ⟨gq, gb, hO, hq, hb, htq⟩ := hR
  have hi5 := hw.i
  have hle := hI.le hw
  have hcap := capF_ok hv hle
  have hcl : capF q0 S.1 ≤ 131072 := by have := hcap.1; unfold QV at this; omega
  have loop : ∀ (m at_ v : Nat), m ≤ tD S k → at_ < S.1 → tD S at_ = m → at_ = bkF (fun a => (S.2.2.1 a).1) (tD S k - m) k → (∀ b, v.testBit b = ((decide (40 ≤ b) && (tD S k + 1).testBit (b - 40)) || (decide (3 * m ≤ b) && (decide (b < 3 * (tD S k + 1)) && (tActs S k act (b / 3)).testBit (b % 3))))) → Go l G 9 s_X9_testTo 0 0 Post 24 [(7, .int (nI m - 1)), (6, .int (nI at_)), (4, .long (lN v)), (0, .ref (w + 52)), (1, .int (nI k)), (2, .int (nI act)), (3, .int (nI (tD S k)))] [] h nx 0 0 := by
    intro m
    induction m with
    | zero =>
      intro at_ v hm hat htd hbk hvb
      refine Go.of hX.2 ck_X9_testTo [24] 20 ?_
      refine And.intro (fun _ => ?_) (fun cz => by first | exact absurd cz (by decide) | exact absurd (by decide) cz)
      refine hP v ⟨by omega, fun b => ?_⟩
      rw [hvb b, decide_eq_true (show 3 * 0 ≤ b by omega), Bool.true_and]
    | succ m ih =>
      intro at_ v hm hat htd hbk hvb
      obtain ⟨p0, p1⟩ := tD_pos hI hat (by omega)
      obtain ⟨r1, r2, r3⟩ := hI.2.1 at_ p0 hat
      have hx17 := tVal_lt hw (hI.1 at_ hat)
      have evv : 2 ^ 20 * (S.2.2.1 at_).1 + 2 ^ 17 * (S.2.2.1 at_).2 + S.2.1 at_ < 2 ^ 63 := by omega
      have e1 : ((gq (nI at_).toNatClampNeg) >>> ((17 : Int32).toInt64 &&& 63)) &&& 7 = lN (S.2.2.1 at_).2 := by
        rw [nI_clamp (by omega), htq.1 at_ hat, show (17 : Int32) = nI 17 from rfl, lx_shr (by omega) (by decide), show (7 : Int64) = lN 7 from rfl, lx_and, Nat.shiftRight_eq_div_pow, show (7 : Nat) = 2 ^ 3 - 1 from rfl, Nat.and_two_pow_sub_one_eq_mod]
        congr 1
        omega
      have e2 : ((gq (nI at_).toNatClampNeg) >>> ((20 : Int32).toInt64 &&& 63)).toInt32 = nI (S.2.2.1 at_).1 := by
        rw [nI_clamp (by omega), htq.1 at_ hat, show (20 : Int32) = nI 20 from rfl, lx_shr (by omega) (by decide), lN_i, Nat.shiftRight_eq_div_pow]
        congr 1
        omega
      have e3 : (3 : Int32) * (nI (m + 1) - 1) = nI (3 * m) := by rw [nI_pred, show (3 : Int32) = nI 3 from rfl, nI_mul]
      have hact : tActs S k act m = (S.2.2.1 at_).2 := by
        unfold tActs
        rw [if_neg (show ¬ m = tD S k by omega), hbk, show tD S k - 1 - m = tD S k - (m + 1) by omega]
      refine Go.of hX.2 ck_X9_testTo [24] 80 ?_
      refine And.intro (fun cz => absurd cz (show ¬ nI (m + 1) - 1 < 0 from by rw [nI_pred]; exact nI_pos (by omega))) (fun _ => ?_)
      refine And.intro (fun cz => absurd cz (nI_nle p0 (by omega))) (fun _ => ?_)
      refine Exists.intro _ (And.intro hO (Exists.intro _ (And.intro rfl ?_)))
      refine Exists.intro _ (Exists.intro _ (And.intro hq (And.intro (by decide) ?_)))
      refine And.intro (fun cz => absurd cz (show ¬ nI (capF q0 S.1) ≤ nI at_ from nI_ge (by omega) (by omega))) (fun _ => ?_)
      refine Exists.intro _ (And.intro hO (Exists.intro _ (And.intro rfl ?_)))
      refine Exists.intro _ (Exists.intro _ (And.intro hq (And.intro (vp_in_nI (by omega) (by omega)) ?_)))
      refine Exists.intro _ (And.intro hO (Exists.intro _ (And.intro rfl ?_)))
      refine Exists.intro _ (Exists.intro _ (And.intro hq (And.intro (vp_in_nI (by omega) (by omega)) ?_)))
      refine go_loc (lv' := [(7, .int (nI (m + 1) - 1 + (-1))), (6, .int (((gq (nI at_).toNatClampNeg) >>> ((20 : Int32).toInt64 &&& 63)).toInt32)), (4, .long (lN v ||| ((((gq (nI at_).toNatClampNeg) >>> ((17 : Int32).toInt64 &&& 63)) &&& 7) <<< (((3 : Int32) * (nI (m + 1) - 1)).toInt64 &&& 63)))), (0, .ref (w + 52)), (1, .int (nI k)), (2, .int (nI act)), (3, .int (nI (tD S k)))]) ⟨rfl, rfl, rfl, rfl, rfl, rfl, rfl, trivial⟩ ?_
      rw [e1, e2, e3, lx_shl (by omega), lx_or, nI_pred, show nI m + (-1) = nI m - 1 from (Int32.sub_eq_add_neg _ _).symm]
      refine ih _ _ (by omega) (by omega) (by omega) ?_ (fun b => ?_)
      · rw [show tD S k - m = (tD S k - (m + 1)) + 1 by omega, ← bkF_s, ← hbk]
      · rw [Nat.testBit_or, hvb b, Nat.testBit_shiftLeft]
        by_cases c1 : 3 * m ≤ b
        · rw [decide_eq_true c1, Bool.true_and, Bool.true_and]
          by_cases c2 : 3 * (m + 1) ≤ b
          · rw [decide_eq_true c2, Bool.true_and, tb_big (k := 3) (a := (S.2.2.1 at_).2) (by omega) (by omega), Bool.or_false]
          · rw [decide_eq_false c2, Bool.false_and, Bool.or_false, show b / 3 = m by omega, hact, decide_eq_true (show b < 3 * (tD S k + 1) by omega), Bool.true_and, show b - 3 * m = b % 3 by omega]
        · rw [decide_eq_false c1, decide_eq_false (show ¬ 3 * (m + 1) ≤ b by omega)]
          simp
  have e4 : ((nI (tD S k) + 1).toInt64 <<< ((40 : Int32).toInt64 &&& 63)) ||| ((nI act).toInt64 <<< (((3 : Int32) * nI (tD S k)).toInt64 &&& 63)) = lN (((tD S k + 1) <<< 40) ||| (act <<< (3 * tD S k))) := by
    rw [← nI_succ, nI_l (by omega), nI_l (by omega), show (40 : Int32) = nI 40 from rfl, lx_shl (by decide), show (3 : Int32) = nI 3 from rfl, nI_mul, lx_shl (by omega), lx_or]
  refine en_X9_testTo hX [24] 60 rfl ?_
  refine go_loc (lv' := [(7, .int (nI (tD S k) - 1)), (6, .int (nI k)), (4, .long (((nI (tD S k) + 1).toInt64 <<< ((40 : Int32).toInt64 &&& 63)) ||| ((nI act).toInt64 <<< (((3 : Int32) * nI (tD S k)).toInt64 &&& 63)))), (0, .ref (w + 52)), (1, .int (nI k)), (2, .int (nI act)), (3, .int (nI (tD S k)))]) ⟨rfl, rfl, rfl, rfl, rfl, rfl, rfl, trivial⟩ ?_
  rw [e4]
  refine loop (tD S k) k _ (Nat.le_refl _) hk rfl (by rw [Nat.sub_self]; rfl) (fun b => ?_)
  rw [Nat.testBit_or, Nat.testBit_shiftLeft, Nat.testBit_shiftLeft]
  congr 1
  by_cases c1 : 3 * tD S k ≤ b
  · rw [decide_eq_true c1, Bool.true_and, Bool.true_and]
    by_cases c2 : b < 3 * (tD S k + 1)
    · rw [decide_eq_true c2, Bool.true_and, show b / 3 = tD S k by omega, show tActs S k act (tD S k) = act from if_pos rfl, show b - 3 * tD S k = b % 3 by omega]
    · rw [decide_eq_false c2, Bool.false_and, tb_big (k := 3) (a := act) (by omega) (by omega)]
  · rw [decide_eq_false c1, Bool.false_and, Bool.false_and]
/-- the hut without flaws, of the trials -/
def XS2 (h : AH) (w c : Nat) (da : Nat → Nat) (dd : Nat → DD) (vb : Nat) : Prop := ∃ (q : HKy) (a b ver : Nat), HTx h (w + 53) a b q ver ∧ WK q ∧ isDr w c da dd a (kD q) ∧ isDr w c da dd b (kE q) ∧ ver ≤ vb
theorem XS2.ag {h h' : AH} {w c vb : Nat} {da : Nat → Nat} {dd : Nat → DD} (hH : XS2 h w c da dd vb) (hs : ∀ x, w + 53 ≤ x → x < w + 58 → h' x = h x) : XS2 h' w c da dd vb := by
  obtain ⟨q, a, b, ver, x1, x2, x3, x4, x6⟩ := hH
  exact ⟨q, a, b, ver, x1.ag (fun x _ _ => hs x (by omega) (by omega)), x2, x3, x4, x6⟩
theorem XS2.le {h : AH} {w c vb vc : Nat} {da : Nat → Nat} {dd : Nat → DD} (hH : XS2 h w c da dd vb) (hl : vb ≤ vc) : XS2 h w c da dd vc := by
  obtain ⟨q, a, b, ver, x1, x2, x3, x4, x6⟩ := hH
  exact ⟨q, a, b, ver, x1, x2, x3, x4, Nat.le_trans x6 hl⟩
set_option maxHeartbeats 8000000 in
theorem x_prepS {l : Launch} {G : GG} {h : AH} {nx : Nat} {Post : Option Value → AH → Nat → Prop} {o w tl c t vb : Nat} {fp ah : Int32} {da : Nat → Nat} {dd : Nat → DD} (hX : XC G ∧ TX l G) (hA : XA h o w tl fp c ah da dd) (hH : XS2 h w c da dd vb) (ht : t < c) (hP : ∀ (h1 : AH) (ver : Nat), (∀ x, x < w + 53 ∨ w + 55 ≤ x → h1 x = h x) → HTx h1 (w + 53) (da t) (da t) (tq0 (dd t)) ver → ver ≤ vb + 1 → Post none h1 nx) : Runs l G i_X3_prepare 0 0 [.ref (w + 53), .ref (da t), .int (-1), .int (-1)] h nx Post := by
  obtain ⟨q, a, b, ver, x1, x2, x3, x4, x6⟩ := hH
  have hdt : isDr w c da dd (da t) (dd t) := Or.inr ⟨t, ht, rfl, rfl⟩
  have hw := (hdt.xd hA).2.1
  refine x_prepare (f := none) (g := none) hX x1 (WK_one hw okW_no okW_no) (hdt.xd hA).1 (fun e => hdt.one hA (e ▸ x3)) (fun e => hdt.one hA (e ▸ x4)) (fun e1 e2 e3 => ?_) (fun h1 y1 y2 => ?_)
  · refine hP h ver (fun _ _ => rfl) ?_ (by omega)
    show HTx h (w + 53) (da t) (da t) (kOne (dd t) none none) ver
    rw [e3]
    rw [← e1, ← e2] at x1
    exact x1
  · exact hP h1 (ver + 1) y1 y2 (by omega)
set_option maxHeartbeats 8000000 in
theorem x_prepBoth {l : Launch} {G : GG} {h : AH} {nx : Nat} {Post : Option Value → AH → Nat → Prop} {o w tl c t vb qa tn f : Nat} {fp ah : Int32} {da : Nat → Nat} {dd : Nat → DD} (hX : XC G ∧ TX l G) (hA : XA h o w tl fp c ah da dd) (hH : XH h w c da dd vb) (hS : XS2 h w c da dd vb) (hO : TO h w qa tn) (ht : t < c) (hf : okW (dd t) (some f)) (hv : vb + 1 < 2 ^ 31) (hP : ∀ (h1 : AH) (v0 v1 : Nat), (∀ x, x < w + 43 ∨ (w + 45 ≤ x ∧ x < w + 53) ∨ w + 55 ≤ x → h1 x = h x) → TB2 h1 w (da t) (dd t) f v0 v1 → v0 ≤ vb + 1 → v1 ≤ vb + 1 → Post none h1 nx) : Runs l G i_X9_prepareBoth 0 0 [.ref (w + 52), .ref (da t), .int (nI f)] h nx Post := by
  have hdt : isDr w c da dd (da t) (dd t) := Or.inr ⟨t, ht, rfl, rfl⟩
  refine en_X9_prepareBoth hX [] 30 rfl ?_
  obtain ⟨_, _, _, _, ⟨_, _, _, _, _, u0, _⟩, _⟩ := id hS
  refine Exists.intro _ (And.intro hO (Exists.intro _ (And.intro rfl ?_)))
  refine Exists.intro _ (And.intro u0 (Exists.intro 0 (Exists.intro 0 (And.intro (Nat.le_refl _) (And.intro (Nat.le_refl _) (x_prepS hX hA hS ht (fun h1 v0 y1 y2 y3 => ?_)))))))
  have hA1 : XA h1 o w tl fp c ah da dd := hA.mid (fun x hx => y1 x (by omega))
  have hO1 : TO h1 w qa tn := (y1 _ (by omega)).trans hO
  have hH1 : XH h1 w c da dd vb := hH.ag (fun x _ _ => y1 x (by omega))
  obtain ⟨_, _, _, _, ⟨_, _, _, _, _, u1, _⟩, _⟩ := id hH1
  refine Exists.intro _ (And.intro hO1 (Exists.intro _ (And.intro rfl ?_)))
  refine Exists.intro _ (And.intro u1 (Exists.intro 0 (Exists.intro 0 (And.intro (Nat.le_refl _) (And.intro (Nat.le_refl _) (x_prepDr (f := some f) (g := none) hX hA1 hH1 ht hf okW_no hv (fun h2 v1 z1 z2 z3 z4 => ?_)))))))
  have hA2 : XA h2 o w tl fp c ah da dd := hA1.mid (fun x hx => z1 x (by omega))
  exact hP h2 v0 v1 (fun x hx => (z1 x (by omega)).trans (y1 x (by omega))) ⟨y2.ag (fun x _ _ => z1 x (by omega)), z2, z3, (hdt.xd hA2).1⟩ y3 z4
