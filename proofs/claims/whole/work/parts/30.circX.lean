/-! x's circuits at a word -/
/-- a drawing of x: nIn inputs; its wiring is walked as the circuits CT say; tg on up k: contact k is closed at a word, without flaws -/
def DX (h : AH) (d nIn K nR nL : Nat) (ow : Nat → Nat) (sl : Nat → Nat) (tg : Nat → Nat → Nat → Bool) (CT : Nat → (Nat → Bool) → Bool) : Prop :=
  ∃ (fs ws : List Value) (wr qc q4 q5 q9 qi qr qo qs : Nat) (gc g9 wc wo go gs : Nat → Int32) (fi fr : Nat → Int64),
  h d = some (.inr (0, fs)) ∧ fs[11]? = some (.ref wr) ∧ fs[15]? = some (.ref qc) ∧ fs[12]? = some (.ref qo) ∧ fs[6]? = some (.ref qs) ∧ h qo = some (.inl (0, 40, .inl go)) ∧ h qs = some (.inl (0, 16, .inl gs)) ∧
  h qc = some (.inl (0, 64 * 2 ^ nIn, .inl gc)) ∧ h wr = some (.inr (10, ws)) ∧ ws[0]? = some (.int (nI 40)) ∧ ws[4]? = some (.ref q4) ∧ ws[5]? = some (.ref q5) ∧ ws[9]? = some (.ref q9) ∧ ws[10]? = some (.ref qi) ∧ ws[11]? = some (.ref qr) ∧
  h q4 = some (.inl (0, 40, .inl wc)) ∧ h q5 = some (.inl (0, 40, .inl wo)) ∧ h q9 = some (.inl (0, 11, .inl g9)) ∧ h qi = some (.inl (1, 32, .inr (.inl fi))) ∧ h qr = some (.inl (1, 64, .inr (.inl fr))) ∧
  nIn ≤ 5 ∧ K ≤ 40 ∧ nR ≤ 6 ∧ nL ≤ 5 ∧
  (∀ k, k < K → go k = nI (ow k) ∧ ow k < 11) ∧ (∀ r, r < nR → gs r = nI (sl r) ∧ sl r < 10) ∧
  (∀ c z, c < 11 → cirB nR nL c = true → decide (wk wc wo z 40 40 (g9 c) = -1) = CT c (bl z)) ∧
  (∀ on up k, on < 2 ^ nIn → up < 64 → k < 64 → bl (fi on ||| fr up) k = (decide (k < K) && tg on up k)) ∧
  (∀ on up, on < 2 ^ nIn → up < 64 → gc (64 * on + up) = nI (bsum (fun c => cirB nR nL c && CT c (fun k => decide (k < K) && tg on up k)) 11)) ∧
  (∀ q, q = wr ∨ q = qc ∨ q = q4 ∨ q = q5 ∨ q = q9 ∨ q = qi ∨ q = qr ∨ q = qo ∨ q = qs → d < q ∧ q < d + 29)
theorem w_hi {on up : Nat} (hon : on < 32) (hup : up < 64) : (nI (64 * on + up) >>> ((6 : Int32) &&& 31)) &&& 31 = nI on := by
  rw [show (6 : Int32) = nI 6 from rfl, nx_shr (by omega) (by decide), show (31 : Int32) = nI 31 from rfl, nx_and]
  congr 1
  rw [Nat.shiftRight_eq_div_pow, show (31 : Nat) = 2 ^ 5 - 1 from rfl, Nat.and_two_pow_sub_one_eq_mod]
  omega
theorem w_lo {on up : Nat} (hup : up < 64) : nI (64 * on + up) &&& 63 = nI up := by
  rw [show (63 : Int32) = nI 63 from rfl, nx_and]
  congr 1
  rw [show (63 : Nat) = 2 ^ 6 - 1 from rfl, Nat.and_two_pow_sub_one_eq_mod]
  omega
theorem wordI {on up : Nat} (hon : on < 32) (hup : up < 64) : (((nI on &&& 31) <<< ((6 : Int32) &&& 31)) ||| (nI up &&& 63)) = nI (64 * on + up) := by
  rw [show (31 : Int32) = nI 31 from rfl, show (63 : Int32) = nI 63 from rfl, nx_and, nx_and, show (6 : Int32) = nI 6 from rfl]
  rw [show on &&& 31 = on from by rw [show (31 : Nat) = 2 ^ 5 - 1 from rfl, Nat.and_two_pow_sub_one_eq_mod]; omega, show up &&& 63 = up from by rw [show (63 : Nat) = 2 ^ 6 - 1 from rfl, Nat.and_two_pow_sub_one_eq_mod]; omega]
  rw [show nI 31 = (31 : Int32) from rfl, nx_shl (by decide), nx_or]
  congr 1
  rw [Nat.shiftLeft_eq, Nat.mul_comm on, show (2 ^ 6 : Nat) = 64 from rfl]
  exact (Nat.two_pow_add_eq_or_of_lt (i := 6) hup on).symm
set_option maxHeartbeats 4000000 in
theorem c_soundCircuits {l : Launch} {G : GG} {h : AH} {nx : Nat} {Post : Option Value → AH → Nat → Prop} {on up : Nat} {d nIn K nR nL : Nat} {ow sl : Nat → Nat} {tg : Nat → Nat → Nat → Bool} {CT : Nat → (Nat → Bool) → Bool} (hX : XC G ∧ TX l G) (hD : DX h d nIn K nR nL ow sl tg CT) (hon : on < 2 ^ nIn) (hup : up < 64) (hP : Post (some (.int (nI (bsum (fun c => cirB nR nL c && CT c (fun k => decide (k < K) && tg on up k)) 11)))) h nx) : Runs l G i_X0_soundCircuits 0 0 [.ref d, .int (nI (64 * on + up))] h nx Post := by
  refine en_X0_soundCircuits hX [] 60 rfl ?_
  obtain ⟨fs, ws, wr, qc, q4, q5, q9, qi, qr, qo, qs, gc, g9, wc, wo, go, gs, fi, fr, hd, f11, f15, f12, f6, ho, hs, hc, hw, w0, w4, w5, w9, w10, w11, h4, h5, h9, hi, hr, hIn, hK, hR6, hL5, eo, es, ew, et, ec, eg⟩ := hD
  have hp : 2 ^ nIn ≤ 32 := Nat.pow_le_pow_right (n := 2) (by decide) hIn
  rw [← ec on up hon hup] at hP
  refine And.intro (fun cz => absurd cz (nI_pos (by omega))) (fun _ => ?_)
  refine Exists.intro _ (And.intro hd (Exists.intro _ (And.intro f15 ?_)))
  refine Exists.intro _ (Exists.intro _ (And.intro hc (And.intro (by decide) ?_)))
  refine And.intro (fun cz => absurd cz (nI_ge (by omega) (by omega))) (fun _ => ?_)
  refine Exists.intro _ (And.intro hd (Exists.intro _ (And.intro f15 ?_)))
  refine Exists.intro _ (Exists.intro _ (And.intro hc (And.intro (vp_in_nI (by omega) (by omega)) ?_)))
  rw [nI_clamp (by omega)]
  exact And.intro rfl hP
set_option maxHeartbeats 4000000 in
theorem c_wordOf {l : Launch} {G : GG} {h : AH} {nx : Nat} {Post : Option Value → AH → Nat → Prop} {a b : Int32} (hX : XC G ∧ TX l G)  (hP : Post (some (.int (((a &&& 31) <<< ((6 : Int32) &&& 31)) ||| (b &&& 63)))) h nx) : Runs l G i_X11_wordOf 0 0 [.int a, .int b] h nx Post := by
  refine en_X11_wordOf hX [] 60 rfl ?_
  exact And.intro rfl hP
set_option maxHeartbeats 4000000 in
theorem c_slowOf {l : Launch} {G : GG} {h : AH} {nx : Nat} {Post : Option Value → AH → Nat → Prop} {r : Nat} {d nIn K nR nL : Nat} {ow sl : Nat → Nat} {tg : Nat → Nat → Nat → Bool} {CT : Nat → (Nat → Bool) → Bool} (hX : XC G ∧ TX l G) (hD : DX h d nIn K nR nL ow sl tg CT) (hrl : r < nR) (hP : Post (some (.int (nI (sl r)))) h nx) : Runs l G i_X0_slowOf 0 0 [.ref d, .int (nI r)] h nx Post := by
  refine en_X0_slowOf hX [] 60 rfl ?_
  obtain ⟨fs, ws, wr, qc, q4, q5, q9, qi, qr, qo, qs, gc, g9, wc, wo, go, gs, fi, fr, hd, f11, f15, f12, f6, ho, hs, hc, hw, w0, w4, w5, w9, w10, w11, h4, h5, h9, hi, hr, hIn, hK, hR6, hL5, eo, es, ew, et, ec, eg⟩ := hD
  refine And.intro (fun cz => absurd cz (nI_pos (by omega))) (fun _ => ?_)
  refine And.intro (fun cz => absurd cz (nI_ge (b := 6) (by omega) (by decide))) (fun _ => ?_)
  refine Exists.intro _ (And.intro hd (Exists.intro _ (And.intro f6 ?_)))
  refine Exists.intro _ (Exists.intro _ (And.intro hs (And.intro (vp_in_nI (by omega) (by decide)) ?_)))
  rw [nI_clamp (by omega), (es r hrl).1]
  exact And.intro rfl hP
/-- a hut of x made ready: two drawings, a set of circuits, what flaws did -/
def HX (h : AH) (u d e set hurt st su : Nat) (wz bz cz : Int64) : Prop := ∃ fs : List Value, h u = some (.inr (3, fs)) ∧ fs.length = 16 ∧ fs[0]? = some (.ref d) ∧ fs[1]? = some (.ref e) ∧ fs[2]? = some (.int (nI set)) ∧ fs[6]? = some (.long wz) ∧ fs[7]? = some (.long bz) ∧ fs[8]? = some (.long cz) ∧ fs[9]? = some (.int (nI st)) ∧ fs[10]? = some (.int (nI su)) ∧ fs[11]? = some (.int (nI hurt))
/-- the contacts that are closed, with the flaws -/
def ctX (wl br cr : Nat → Bool) (b : Nat → Bool) (k : Nat) : Bool := ((b k && !br k) || wl k) || (((b (k + 1) && !br (k + 1)) || wl (k + 1)) && cr k) || (decide (0 < k) && (((b (k - 1) && !br (k - 1)) || wl (k - 1)) && cr (k - 1)))
theorem ct_bl {x wz bz cz : Int64} {b : Nat → Bool} (hb : ∀ k, bl x k = b k) : bl (((((x &&& (bz ^^^ (-1))) ||| wz) ||| (((((x &&& (bz ^^^ (-1))) ||| wz).toUInt64 >>> ((1 : Int32).toInt64.toUInt64 &&& Int64.toUInt64 63)).toInt64) &&& cz)) ||| ((((x &&& (bz ^^^ (-1))) ||| wz) &&& cz) <<< ((1 : Int32).toInt64 &&& 63)))) = fun k => decide (k < 64) && ctX (bl wz) (bl bz) (bl cz) b k := by
  funext k
  rcases Nat.lt_or_ge k 64 with hk | hk
  · have ha : ∀ i, bl ((x &&& (bz ^^^ (-1))) ||| wz) i = ((b i && !bl bz i) || bl wz i) := by
      intro i
      rw [bl_or, bl_and, bl_xor, hb]
      rcases Nat.lt_or_ge i 64 with hi | hi
      · rw [bl_m1 i hi, Bool.xor_true]
      · rw [bl_big hi, bl_big hi, ← hb, bl_big hi]; rfl
    rw [bl_or, bl_or, bl_and, show (1 : Int32) = nI 1 from rfl, bl_ushr 1 (by decide), bl_shl 1 (by decide) _ hk, bl_and, ha, ha, ha, decide_eq_true hk, Bool.true_and, Nat.add_comm 1 k]
    rfl
  · rw [bl_big hk, decide_eq_false (Nat.not_lt.mpr hk), Bool.false_and]
set_option maxHeartbeats 4000000 in
theorem c_circuitsAt {l : Launch} {G : GG} {h : AH} {nx : Nat} {Post : Option Value → AH → Nat → Prop} {u on up set hurt st su : Nat} {wz bz cz : Int64} {d nIn K nR nL : Nat} {ow sl : Nat → Nat} {tg : Nat → Nat → Nat → Bool} {CT : Nat → (Nat → Bool) → Bool} {e K2 nR2 nL2 : Nat} {ow2 sl2 : Nat → Nat} {tg2 : Nat → Nat → Nat → Bool} {CT2 : Nat → (Nat → Bool) → Bool} (hX : XC G ∧ TX l G) (hH : HX h u d e set hurt st su wz bz cz) (hD : DX h d nIn K nR nL ow sl tg CT) (hE : DX h e nIn K2 nR2 nL2 ow2 sl2 tg2 CT2) (hon : on < 2 ^ nIn) (hup : up < 64) (hset : set < 2048) (hhurt : hurt < 2048) (hhc : ∀ c, c < 11 → hurt.testBit c = true → cirB nR nL c = true) (hP : Post (some (.int (nI (bsum (fun c => if hurt.testBit c = true then CT c (fun k => decide (k < 64) && ctX (bl wz) (bl bz) (bl cz) (fun k => decide (k < K) && tg on up k) k) else (if set.testBit c = true then (cirB nR2 nL2 c && CT2 c (fun k => decide (k < K2) && tg2 on up k)) else (cirB nR nL c && CT c (fun k => decide (k < K) && tg on up k)))) 11)))) h nx) : Runs l G i_X3_circuitsAt 0 0 [.ref u, .int (nI (64 * on + up))] h nx Post := by
  obtain ⟨fs3, hu, u16, u0, u1, u2, u6, u7, u8, u9, u10, u11⟩ := hH
  have hD0 := hD
  obtain ⟨fs, ws, wr, qc, q4, q5, q9, qi, qr, qo, qs, gc, g9, wc, wo, go, gs, fi, fr, hd, f11, f15, f12, f6, ho, hs, hc, hw, w0, w4, w5, w9, w10, w11, h4, h5, h9, hi, hr, hIn, hK, hR6, hL5, eo, es, ew, et, ec, eg⟩ := hD
  have hp : 2 ^ nIn ≤ 32 := Nat.pow_le_pow_right (n := 2) (by decide) hIn
  have hon32 : on < 32 := by omega
  have hb64 : ∀ k, bl (fi on ||| fr up) k = (fun k => decide (k < K) && tg on up k) k := by
    intro k
    rcases Nat.lt_or_ge k 64 with hk | hk
    · exact et on up k hon hup hk
    · rw [bl_big hk]; exact (show false = (decide (k < K) && tg on up k) by rw [decide_eq_false (show ¬ k < K by omega), Bool.false_and])
  have hmix : ((nI (bsum (fun c => cirB nR nL c && CT c (fun k => decide (k < K) && tg on up k)) 11) &&& (nI set ^^^ (-1))) ||| (nI (bsum (fun c => cirB nR2 nL2 c && CT2 c (fun k => decide (k < K2) && tg2 on up k)) 11) &&& nI set)) = nI (bsum (fun c => if set.testBit c = true then (cirB nR2 nL2 c && CT2 c (fun k => decide (k < K2) && tg2 on up k)) else (cirB nR nL c && CT c (fun k => decide (k < K) && tg on up k))) 11) := by
    rw [nx_andn, nx_and, nx_or]
    congr 1
    apply Nat.eq_of_testBit_eq
    intro i
    rw [Nat.testBit_or, Nat.testBit_xor, Nat.testBit_and, Nat.testBit_and, bsum_tb, bsum_tb, bsum_tb]
    cases set.testBit i <;> simp
  obtain ⟨fe, he⟩ : ∃ fe, h e = some (.inr (0, fe)) := by obtain ⟨fe, _, _, _, _, _, _, _, _, _, _, _, _, _, _, _, _, _, _, he, _⟩ := hE; exact ⟨fe, he⟩
  refine en_X3_circuitsAt hX [] 80 rfl ?_
  refine Exists.intro _ (And.intro hu (Exists.intro _ (And.intro u0 ?_)))
  refine Exists.intro _ (And.intro hd (Exists.intro 0 (Exists.intro 0 (And.intro (Nat.le_refl _) (And.intro (Nat.le_refl _) (c_soundCircuits hX hD0 hon hup ?_))))))
  refine Exists.intro _ (And.intro hu (Exists.intro _ (And.intro u2 ?_)))
  refine Exists.intro _ (And.intro hu (Exists.intro _ (And.intro u1 ?_)))
  refine Exists.intro _ (And.intro he (Exists.intro 0 (Exists.intro 0 (And.intro (Nat.le_refl _) (And.intro (Nat.le_refl _) (c_soundCircuits hX hE hon hup ?_))))))
  refine Exists.intro _ (And.intro hu (Exists.intro _ (And.intro u2 ?_)))
  refine Exists.intro _ (And.intro hu (Exists.intro _ (And.intro u11 ?_)))
  rw [hmix]
  refine And.intro (fun c1 => ?_) (fun c1 => ?_)
  · refine Exists.intro _ (And.intro hu (Exists.intro _ (And.intro u0 ?_)))
    refine Exists.intro _ (And.intro hd (Exists.intro _ (And.intro f11 ?_)))
    refine Exists.intro _ (And.intro hw (Exists.intro 0 (Exists.intro 0 (And.intro (Nat.le_refl _) (And.intro (Nat.le_refl _) (c_contactsAt hX hw w10 w11 hi hr ?_))))))
    rw [w_hi hon32 hup, w_lo hup, nI_clamp (by omega), nI_clamp (by omega)]
    refine Exists.intro _ (And.intro hu (Exists.intro _ (And.intro u7 ?_)))
    refine Exists.intro _ (And.intro hu (Exists.intro _ (And.intro u6 ?_)))
    refine Exists.intro _ (And.intro hu (Exists.intro _ (And.intro u8 ?_)))
    refine Exists.intro _ (And.intro hu (Exists.intro _ (And.intro u8 ?_)))
    refine Exists.intro _ (And.intro hu (Exists.intro _ (And.intro u11 ?_)))
    refine Exists.intro _ (And.intro hu (Exists.intro _ (And.intro u0 ?_)))
    refine Exists.intro _ (And.intro hd (Exists.intro _ (And.intro f11 ?_)))
    refine Exists.intro _ (And.intro hu (Exists.intro _ (And.intro u11 ?_)))
    refine Exists.intro _ (And.intro hw (Exists.intro 0 (Exists.intro 0 (And.intro (Nat.le_refl _) (And.intro (Nat.le_refl _) (c_circuitsWith hX hw w0 w4 w5 w9 h9 h4 h5 (by decide) (by omega) ?_))))))
    rw [nx_andn]
    refine And.intro rfl ?_
    rw [nx_or]
    have ev : ∀ zz : Int64, bl zz = (fun k => decide (k < 64) && ctX (bl wz) (bl bz) (bl cz) (fun k => decide (k < K) && tg on up k) k) → (bsum (fun c => if set.testBit c = true then (cirB nR2 nL2 c && CT2 c (fun k => decide (k < K2) && tg2 on up k)) else (cirB nR nL c && CT c (fun k => decide (k < K) && tg on up k))) 11 ^^^ (bsum (fun c => if set.testBit c = true then (cirB nR2 nL2 c && CT2 c (fun k => decide (k < K2) && tg2 on up k)) else (cirB nR nL c && CT c (fun k => decide (k < K) && tg on up k))) 11 &&& hurt)) ||| bsum (fun c => hurt.testBit c && decide (wk wc wo zz 40 40 (g9 c) = -1)) 11 = bsum (fun c => if hurt.testBit c = true then CT c (fun k => decide (k < 64) && ctX (bl wz) (bl bz) (bl cz) (fun k => decide (k < K) && tg on up k) k) else (if set.testBit c = true then (cirB nR2 nL2 c && CT2 c (fun k => decide (k < K2) && tg2 on up k)) else (cirB nR nL c && CT c (fun k => decide (k < K) && tg on up k)))) 11 := by
      intro zz hzz
      apply Nat.eq_of_testBit_eq
      intro i
      rw [Nat.testBit_or, Nat.testBit_xor, Nat.testBit_and, bsum_tb, bsum_tb, bsum_tb]
      rcases Nat.lt_or_ge i 11 with hi11 | hi11
      · cases hh : hurt.testBit i
        · simp [hh]
        · rw [ew i zz hi11 (hhc i hi11 hh), hzz]; simp [hh, hi11]
      · simp [Nat.not_lt.mpr hi11]
    rw [ev _ (ct_bl hb64)]
    exact hP
  · have h0 : hurt = 0 := (nI_eq (by omega) (by decide)).mp (show nI hurt = nI 0 from c1)
    subst h0
    refine And.intro rfl ?_
    rw [show bsum (fun c => if Nat.testBit 0 c = true then CT c (fun k => decide (k < 64) && ctX (bl wz) (bl bz) (bl cz) (fun k => decide (k < K) && tg on up k) k) else (if set.testBit c = true then (cirB nR2 nL2 c && CT2 c (fun k => decide (k < K2) && tg2 on up k)) else (cirB nR nL c && CT c (fun k => decide (k < K) && tg on up k)))) 11 = bsum (fun c => if set.testBit c = true then (cirB nR2 nL2 c && CT2 c (fun k => decide (k < K2) && tg2 on up k)) else (cirB nR nL c && CT c (fun k => decide (k < K) && tg on up k))) 11 from bsum_congr (fun i _ => by rw [Nat.zero_testBit, if_neg (by decide)])] at hP
    exact hP
