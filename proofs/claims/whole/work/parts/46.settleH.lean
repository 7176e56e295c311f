/-! x's settle of a hut made ready -/
theorem DX.ag {h h' : AH} {d nIn K nR nL : Nat} {ow sl : Nat → Nat} {tg : Nat → Nat → Nat → Bool} {CT : Nat → (Nat → Bool) → Bool} (hD : DX h d nIn K nR nL ow sl tg CT) (hs : ∀ a, d ≤ a → a < d + 29 → h' a = h a) : DX h' d nIn K nR nL ow sl tg CT := by
  obtain ⟨fs, ws, wr, qc, q4, q5, q9, qi, qr, qo, qs, gc, g9, wc, wo, go, gs, fi, fr, hd, f11, f15, f12, f6, ho, hs1, hc, hw, w0, w4, w5, w9, w10, w11, h4, h5, h9, hi, hr, hIn, hK, hR6, hL5, eo, es, ew, et, ec, eg⟩ := hD
  have k : ∀ q v, (q = wr ∨ q = qc ∨ q = q4 ∨ q = q5 ∨ q = q9 ∨ q = qi ∨ q = qr ∨ q = qo ∨ q = qs) → h q = some v → h' q = some v := fun q v hq hv => (hs q (by have := (eg q hq).1; omega) (eg q hq).2).trans hv
  refine ⟨fs, ws, wr, qc, q4, q5, q9, qi, qr, qo, qs, gc, g9, wc, wo, go, gs, fi, fr, (hs d (Nat.le_refl _) (by omega)).trans hd, f11, f15, f12, f6, k _ _ (by simp) ho, k _ _ (by simp) hs1, k _ _ (by simp) hc, k _ _ (by simp) hw, w0, w4, w5, w9, w10, w11, k _ _ (by simp) h4, k _ _ (by simp) h5, k _ _ (by simp) h9, k _ _ (by simp) hi, k _ _ (by simp) hr, hIn, hK, hR6, hL5, eo, es, ew, et, ec, eg⟩
/-- a contact at a word, without flaws -/
def tgW (of : Nat → Nat) (nt tr : Nat → Bool) (on up k : Nat) : Bool := thv tr on up (of k) ^^ nt k
theorem shM_hi {nR nL nR2 nL2 set : Nat} {of of2 : Nat → Nat} {nt tr nt2 tr2 wl br cr : Nat → Bool} {CT CT2 : Nat → (Nat → Bool) → Bool} {on up r : Nat} (hset : ∀ c, c < 11 → set.testBit c = true → cirB nR2 nL2 c = true) (hnn : nR2 = nR) (h1 : nR ≤ r) (h2 : r < 6) : (shM nR nL set of of2 nt tr nt2 tr2 wl br cr CT CT2 on up).testBit r = false := by
  unfold shM
  rw [bsum_tb]
  have hno : ∀ n, cirB nR n r = false := fun n => by
    unfold cirB
    rw [if_pos h2]
    exact decide_eq_false (by omega)
  unfold shF
  cases hs : set.testBit r
  · rw [if_neg (by decide), hno, Bool.false_and, Bool.and_false]
  · have := hset r (by omega) hs
    rw [hnn, hno] at this
    cases this
set_option maxHeartbeats 4000000 in
theorem c_settleH {l : Launch} {G : GG} {h : AH} {nxA : Nat} {Post : Option Value → AH → Nat → Prop} {u d e set K K2 nIn nR nL nR2 nL2 on up0 bb qs qw ql qe : Nat} {f g : Option Nat} {ow ow2 sl sl2 of of2 : Nat → Nat} {nt tr nt2 tr2 : Nat → Bool} {CT CT2 : Nat → (Nat → Bool) → Bool} {ver : Int32} {gm gw gl ge : Nat → Int32} {fs : List Value} (hX : XC G ∧ TX l G)
    (hu : h u = some (.inr (3, fs))) (hK0 : HK fs d e set f g ow ver qs qw ql qe) (hD : DX h d nIn K nR nL ow sl (tgW of nt tr) CT) (hE : DX h e nIn K2 nR2 nL2 ow2 sl2 (tgW of2 nt2 tr2) CT2) (S0 : SH h h qs qw ql qe gm gw gl ge) (hq : DQ qs qw ql qe) (nu : u ≠ qs ∧ u ≠ qw ∧ u ≠ ql ∧ u ≠ qe)
    (ndj : ∀ a, (d ≤ a ∧ a < d + 29) ∨ (e ≤ a ∧ a < e + 29) → a ≠ qs ∧ a ≠ qw ∧ a ≠ ql ∧ a ≠ qe)
    (hd : depB K ow CT) (hd2 : depB K2 ow2 CT2) (hcr : ∀ k, cr2 f g k = true → k + 1 < K ∧ ow (k + 1) = ow k) (hset : ∀ c, c < 11 → set.testBit c = true → cirB nR2 nL2 c = true) (hone : set = 0 ∨ (f = none ∧ g = none)) (hhc : ∀ c, c < 11 → (huF ow f ||| huF ow g).testBit c = true → cirB nR nL c = true) (hhu : huF ow f ||| huF ow g < 2048) (hnn : nR2 = nR)
    (hon : on < 2 ^ nIn) (hup0 : up0 < 2 ^ nR) (hbb : ((((nI bb) &&& (nI (skF f ||| skF g) ^^^ (-1))) ||| nI (suF f ||| suF g)) &&& 63) = nI up0)
    (hmem : ∀ v, v < 2 ^ nR → MIv (fun v => mvF nR sl (shM nR nL set of of2 nt tr nt2 tr2 (wl2 f g) (br2 f g) (cr2 f g) CT CT2 on v) (skF f ||| skF g) v) nR v (gm (64 * on + v)))
    (hP : ∀ (h1 : AH) (m gw gl ge : Nat → Int32), SH h h1 qs qw ql qe m gw gl ge → (∀ v, v < 2 ^ nR → MIv (fun v => mvF nR sl (shM nR nL set of of2 nt tr nt2 tr2 (wl2 f g) (br2 f g) (cr2 f g) CT CT2 on v) (skF f ||| skF g) v) nR v (m (64 * on + v))) → (∀ w, w < 64 * on ∨ 64 * on + 2 ^ nR ≤ w → m w = gm w) → Post (some (.int (stF (fun v => mvF nR sl (shM nR nL set of of2 nt tr nt2 tr2 (wl2 f g) (br2 f g) (cr2 f g) CT CT2 on v) (skF f ||| skF g) v) nR up0))) h1 nxA) : Runs l G i_X3_settle 0 0 [.ref u, .int (nI on), .int (nI bb)] h nxA Post := by
  have hD0 := hD
  obtain ⟨fd, ws, wr, qc, q4, q5, q9, qi, qr, qo, qs1, gc, g9, wc, wo, go, gs, fi, fr, kd, f11, f15, f12, f6, ho, hs1, hc, hw, w0, w4, w5, w9, w10, w11, h4, h5, h9, hi, hr, hIn, hK, hR6, hL5, eo, es, ew, et, ec, eg⟩ := hD
  obtain ⟨⟨wz, bz, cz, ⟨e16, e0, e6, e7, e8, e9, e10, e11⟩, bw, bb2, bc⟩, e1, e2, e3, e4, e5, e12, e13, e14, e15, sf, sg, hs0⟩ := hK0
  have hp : 2 ^ nR ≤ 64 := Nat.pow_le_pow_right (n := 2) (by decide) hR6
  have hpi : 2 ^ nIn ≤ 32 := Nat.pow_le_pow_right (n := 2) (by decide) hIn
  have hsm : ∀ v, shM nR nL set of of2 nt tr nt2 tr2 (wl2 f g) (br2 f g) (cr2 f g) CT CT2 on v < 2048 := fun v => bsum_lt _ 11
  refine c_settle (nx := fun v => mvF nR sl (shM nR nL set of of2 nt tr nt2 tr2 (wl2 f g) (br2 f g) (cr2 f g) CT CT2 on v) (skF f ||| skF g) v) (shv := fun v => shM nR nL set of of2 nt tr nt2 tr2 (wl2 f g) (br2 f g) (cr2 f g) CT CT2 on v) hX hu e9 e10 e12 e13 e14 e15 hq nu S0 (by omega) hR6 (fun v => mvF_lt (fun r hr => (es r hr).2)) hup0 (fun h1 v {Q} ha hv hQ => ?_) (fun h1 v {Q} ha hv hQ => ?_) hmem ?_ hP
  · have kd1 : DX h1 d nIn K nR nL ow sl (tgW of nt tr) CT := hD0.ag (fun a x1 x2 => by obtain ⟨y1, y2, y3, y4⟩ := ndj a (Or.inl ⟨x1, x2⟩); exact ha a y1 y2 y3 y4)
    have ke1 : DX h1 e nIn K2 nR2 nL2 ow2 sl2 (tgW of2 nt2 tr2) CT2 := hE.ag (fun a x1 x2 => by obtain ⟨y1, y2, y3, y4⟩ := ndj a (Or.inr ⟨x1, x2⟩); exact ha a y1 y2 y3 y4)
    refine c_circuitsAt (hurt := huF ow f ||| huF ow g) (set := set) (st := skF f ||| skF g) (su := suF f ||| suF g) hX ⟨fs, (ha u nu.1 nu.2.1 nu.2.2.1 nu.2.2.2).trans hu, e16, e0, e1, e2, e6, e7, e8, e9, e10, e11⟩ kd1 ke1 hon (by omega) hs0 hhu hhc ?_
    rw [same_shut hK bw bb2 bc hd hd2 hcr hset hone hhc]
    exact hQ
  · have kd1 : DX h1 d nIn K nR nL ow sl (tgW of nt tr) CT := hD0.ag (fun a x1 x2 => by obtain ⟨y1, y2, y3, y4⟩ := ndj a (Or.inl ⟨x1, x2⟩); exact ha a y1 y2 y3 y4)
    exact c_movable hX ((ha u nu.1 nu.2.1 nu.2.2.1 nu.2.2.2).trans hu) e0 e9 kd1 (by omega) hv (hsm v) (fun r x1 x2 => shM_hi hset hnn x1 x2) hQ
  · rw [hbb]
    have := wordI (on := on) (up := up0) (by omega) (by omega)
    rw [show nI up0 &&& 63 = nI up0 from by rw [show (63 : Int32) = nI 63 from rfl, nx_and, show (63 : Nat) = 2 ^ 6 - 1 from rfl, Nat.and_two_pow_sub_one_eq_mod, Nat.mod_eq_of_lt (by omega)]] at this
    exact this
