/-! x's drawings, with their places; x's huts made ready -/
/-- a drawing's fields: cc codes, fc flaws -/
def xfD (D : DD) (d : Nat) (cc fc : Nat) : List Value := [.int (nI (dI D)), .int (nI (dR D)), .int (nI (dL D)), .int (nI (dK D)), .int (nI (dV D)), .ref (d + 1), .ref (d + 2), .ref (d + 3), .ref (d + 4), .ref (d + 5), .int (nI cc), .ref (d + 6), .ref (d + 18), .ref (d + 19), .int (nI fc), .ref (d + 27), .ref (d + 28), .ref (d + 20)]
def xfW (d : Nat) : List Value := [.int (nI 40), .ref (d + 13), .ref (d + 14), .ref (d + 15), .ref (d + 16), .ref (d + 17), .ref (d + 7), .ref (d + 8), .ref (d + 9), .ref (d + 10), .ref (d + 11), .ref (d + 12)]
/-- all flaws that there are, by their numbers -/
def flL (D : DD) : List Nat := (List.range 212).filter (vFb (dK D) (dR D) (dow D))
/-- the names and kinds of what a drawing has, by items: circuits, then inputs (x's way) -/
def itN (D : DD) (i : Nat) : Int64 := if i < 6 then (if i < dR D then dnR D i else 0) else if i < 11 then (if i - 6 < dL D then dnL D (i - 6) else 0) else if i - 11 < dI D then dnI D (i - 11) else 0
def itS (D : DD) (i : Nat) : Nat := if i < 6 then (if i < dR D then dsl D i else 0) else if i < 11 then (if i - 6 < dL D then (if dgr D (i - 6) = true then 9 else 8) else 0) else if i - 11 < dI D then (if dtr D (i - 11) = true then 5 else 4) else 0
/-- a drawing of x at d -/
def XD (h : AH) (d : Nat) (D : DD) : Prop := ∃ (cc : Nat) (g2 g3 g4 g5 g10 g13 g14 g16 g17 g18 g19 g27 g28 : Nat → Int32) (g1 g11 g12 : Nat → Int64),
  h d = some (.inr (0, xfD D d cc (flL D).length)) ∧ h (d + 6) = some (.inr (10, xfW d)) ∧
  h (d + 1) = some (.inl (1, 16, .inr (.inl g1))) ∧ h (d + 2) = some (.inl (0, 16, .inl g2)) ∧ h (d + 3) = some (.inl (0, 400, .inl g3)) ∧ h (d + 4) = some (.inl (0, 11, .inl g4)) ∧ h (d + 5) = some (.inl (0, 11, .inl g5)) ∧
  h (d + 10) = some (.inl (0, 11, .inl g10)) ∧ h (d + 11) = some (.inl (1, 32, .inr (.inl g11))) ∧ h (d + 12) = some (.inl (1, 64, .inr (.inl g12))) ∧ h (d + 13) = some (.inl (0, 40, .inl g13)) ∧ h (d + 14) = some (.inl (0, 40, .inl g14)) ∧ h (d + 16) = some (.inl (0, 40, .inl g16)) ∧ h (d + 17) = some (.inl (0, 40, .inl g17)) ∧
  h (d + 18) = some (.inl (0, 40, .inl g18)) ∧ h (d + 19) = some (.inl (0, 132, .inl g19)) ∧ h (d + 27) = some (.inl (0, 64 * 2 ^ dI D, .inl g27)) ∧ h (d + 28) = some (.inl (2, 64 * 2 ^ dI D, .inl g28)) ∧
  (∀ k, k < dK D → g18 k = nI (dow D k) ∧ g13 k = nI (if dof D k < 5 then 6 + dof D k else dof D k - 10) ∧ g14 k = nI (dnt D k).toNat) ∧
  (∀ r, r < dR D → g2 r = nI (dsl D r)) ∧
  (∀ c z, c < 11 → cirB (dR D) (dL D) c = true → decide (wk g16 g17 z 40 40 (g10 c) = -1) = dCT D c (bl z)) ∧
  (∀ on up k, on < 2 ^ dI D → up < 64 → k < 64 → bl (g11 on ||| g12 up) k = (decide (k < dK D) && tgW (dof D) (dnt D) (dtr D) on up k)) ∧
  (∀ on up, on < 2 ^ dI D → up < 64 → g27 (64 * on + up) = nI (bsum (fun c => cirB (dR D) (dL D) c && dCT D c (fun k => decide (k < dK D) && tgW (dof D) (dnt D) (dtr D) on up k)) 11)) ∧
  (∀ w, w < 64 * 2 ^ dI D → g28 w = nI (nvF (dlp D) (fun k => dNV D k (w / 64) (w % 64)) (dV D))) ∧
  (∀ i, i < (flL D).length → g19 i = nI ((flL D).getD i 0)) ∧
  (∀ i, i < 16 → g1 i = itN D i ∧ g2 i = nI (itS D i)) ∧
  (∀ c, c < 11 → ∃ a, g4 c = nI a ∧ g5 c = nI (a + (if cirB (dR D) (dL D) c then (dsg D c).length else 0)) ∧ a + (if cirB (dR D) (dL D) c then (dsg D c).length else 0) ≤ 400 ∧ (cirB (dR D) (dL D) c = true → ∀ i, i < (dsg D c).length → g3 (a + i) = nI (cdF D ((dsg D c).getD i 0))))
theorem XD.dx {h : AH} {d : Nat} {D : DD} (hD : XD h d D) (hw : WD D) : DX h d (dI D) (dK D) (dR D) (dL D) (dow D) (dsl D) (tgW (dof D) (dnt D) (dtr D)) (dCT D) := by
  obtain ⟨cc, g2, g3, g4, g5, g10, g13, g14, g16, g17, g18, g19, g27, g28, g1, g11, g12, e0, e6, e1, e2, e3, e4, e5, e10, e11, e12, e13, e14, e16, e17, e18, e19, e27, e28, p1, p2, p3, p4, p5, p6, p7, p8, p9⟩ := hD
  exact ⟨_, _, d + 6, d + 27, d + 16, d + 17, d + 10, d + 11, d + 12, d + 18, d + 2, g27, g10, g16, g17, g18, g2, g11, g12, e0, rfl, rfl, rfl, rfl, e18, e2, e27, e6, rfl, rfl, rfl, rfl, rfl, rfl, e16, e17, e10, e11, e12, hw.i, hw.k, hw.r, hw.l, fun k hk => ⟨(p1 k hk).1, (hw.c k hk).1⟩, fun r hr => ⟨p2 r hr, hw.s r hr⟩, p3, p4, p5, fun q hq => by omega⟩
theorem XD.fb {h : AH} {d : Nat} {D : DD} (hD : XD h d D) (hw : WD D) : FB h d (dI D) (fun w => nvF (dlp D) (fun k => dNV D k (w / 64) (w % 64)) (dV D)) := by
  obtain ⟨cc, g2, g3, g4, g5, g10, g13, g14, g16, g17, g18, g19, g27, g28, g1, g11, g12, e0, e6, e1, e2, e3, e4, e5, e10, e11, e12, e13, e14, e16, e17, e18, e19, e27, e28, p1, p2, p3, p4, p5, p6, p7, p8, p9⟩ := hD
  exact ⟨_, d + 28, g28, e0, rfl, e28, hw.i, by omega, fun w hh => ⟨p6 w hh, nvF_lt (fun k hk => by have := (hw.n k hk).1; have := hw.l; omega)⟩⟩
theorem XD.ag {h h' : AH} {d : Nat} {D : DD} (hD : XD h d D) (hs : ∀ a, (d ≤ a ∧ a < d + 20) ∨ (d + 27 ≤ a ∧ a < d + 29) → h' a = h a) : XD h' d D := by
  obtain ⟨cc, g2, g3, g4, g5, g10, g13, g14, g16, g17, g18, g19, g27, g28, g1, g11, g12, e0, e6, e1, e2, e3, e4, e5, e10, e11, e12, e13, e14, e16, e17, e18, e19, e27, e28, p⟩ := hD
  refine ⟨cc, g2, g3, g4, g5, g10, g13, g14, g16, g17, g18, g19, g27, g28, g1, g11, g12, ?_, ?_, ?_, ?_, ?_, ?_, ?_, ?_, ?_, ?_, ?_, ?_, ?_, ?_, ?_, ?_, ?_, ?_, p⟩
  all_goals rw [hs _ (by omega)]
  all_goals assumption
/-- x's hut at u is hut q, of the drawings at a and b; ver huts were made ready so far -/
def HTx (h : AH) (u a b : Nat) (q : HKy) (ver : Nat) : Prop := ∃ (fs : List Value) (gm gw gl ge : Nat → Int32), h u = some (.inr (3, fs)) ∧ HK fs a b (kS q) (kF q) (kG q) (dow (kD q)) (nI ver) (u + 1) (u + 2) (u + 3) (u + 4) ∧ h (u + 1) = some (.inl (2, 2048, .inl gm)) ∧ h (u + 2) = some (.inl (0, 64, .inl gw)) ∧ h (u + 3) = some (.inl (0, 64, .inl gl)) ∧ h (u + 4) = some (.inl (0, 64, .inl ge)) ∧ ∀ on, on < 2 ^ dI (kD q) → ∀ v, v < 2 ^ dR (kD q) → MIv (kNx q on) (dR (kD q)) v (gm (64 * on + v))
theorem HTx.ag {h h' : AH} {u a b ver : Nat} {q : HKy} (hH : HTx h u a b q ver) (hs : ∀ x, u ≤ x → x < u + 5 → h' x = h x) : HTx h' u a b q ver := by
  obtain ⟨fs, gm, gw, gl, ge, e0, e, e1, e2, e3, e4, p⟩ := hH
  exact ⟨fs, gm, gw, gl, ge, (hs _ (by omega) (by omega)).trans e0, e, (hs _ (by omega) (by omega)).trans e1, (hs _ (by omega) (by omega)).trans e2, (hs _ (by omega) (by omega)).trans e3, (hs _ (by omega) (by omega)).trans e4, p⟩
/-- a drawing's place is away from a hut's -/
def awy (d u : Nat) : Prop := d + 29 ≤ u ∨ u + 5 ≤ d
theorem plc_mask {st su b : Nat} (hb : b < 2 ^ 31) (hst : st < 64) (hsu : su < 64) : ((((nI b) &&& (nI st ^^^ (-1))) ||| nI su) &&& 63) = nI (plc st su (b % 64)) := by
  rw [nx_andn, nx_or, show (63 : Int32) = nI 63 from rfl, nx_and]
  congr 1
  refine Nat.eq_of_testBit_eq (fun r => ?_)
  rw [plc_tb, show (64 : Nat) = 2 ^ 6 from rfl, Nat.testBit_mod_two_pow, show (63 : Nat) = 2 ^ 6 - 1 from rfl]
  simp only [Nat.testBit_and, Nat.testBit_or, Nat.testBit_xor, Nat.testBit_two_pow_sub_one]
  by_cases h6 : r < 6
  · rw [decide_eq_true h6]
    cases b.testBit r <;> cases st.testBit r <;> cases su.testBit r <;> rfl
  · rw [decide_eq_false h6, tb_big (k := 6) (a := su) (by omega) (by omega)]
    cases b.testBit r <;> cases st.testBit r <;> rfl
set_option maxHeartbeats 8000000 in
theorem x_settle {l : Launch} {G : GG} {h : AH} {nx : Nat} {Post : Option Value → AH → Nat → Prop} {u a b on bb ver : Nat} {q : HKy} (hX : XC G ∧ TX l G) (hH : HTx h u a b q ver) (hq : WK q) (hD : XD h a (kD q)) (hE : XD h b (kE q)) (ha : awy a u) (hb : awy b u) (hon : on < 2 ^ dI (kD q)) (hbb : bb < 2 ^ 31) (hb6 : bb % 64 < 2 ^ dR (kD q)) (hP : ∀ h1 : AH, (∀ x, x ≤ u ∨ u + 5 ≤ x → h1 x = h x) → HTx h1 u a b q ver → Post (some (.int (kSe q on (kPl q (bb % 64))))) h1 nx) : Runs l G i_X3_settle 0 0 [.ref u, .int (nI on), .int (nI bb)] h nx Post := by
  obtain ⟨fs, gm, gw, gl, ge, e0, e, e1, e2, e3, e4, p⟩ := hH
  obtain ⟨hwD, hwE, hI, hR, hL, hf, hg, hs0, hsb, hone, _, _⟩ := id hq
  have hst := kSt_lt hq
  have hdE := hE.dx hwE
  rw [hI] at hdE
  unfold awy at ha hb
  refine c_settleH (up0 := kPl q (bb % 64)) (set := kS q) (f := kF q) (g := kG q) hX e0 e (hD.dx hwD) hdE ⟨fun _ _ _ _ _ => rfl, e1, e2, e3, e4⟩ ⟨by omega, by omega, by omega, by omega, by omega, by omega⟩ ⟨by omega, by omega, by omega, by omega⟩ (fun x hx => ⟨by omega, by omega, by omega, by omega⟩) hwD.d hwE.d (fun k hk => okW_cr hf hg hk) hsb hone ?_ ?_ hR hon (kPl_lt hq hb6) ?_ (fun v hv => p on hon v hv) (fun h1 m w2 l2 d2 k1 k2 k3 => ?_)
  · intro c hc hb2
    rw [Nat.testBit_or, Bool.or_eq_true] at hb2
    rcases hb2 with z | z
    · exact (okW_hu hwD hf c z).1
    · exact (okW_hu hwD hg c z).1
  · exact Nat.or_lt_two_pow (n := 11) (okW_hu2 hwD hf) (okW_hu2 hwD hg)
  · exact plc_mask hbb hst.1 hst.2
  · obtain ⟨j1, j2, j3, j4, j5⟩ := k1
    refine hP h1 (fun x hx => j1 x (by omega) (by omega) (by omega) (by omega)) ⟨fs, m, w2, l2, d2, (j1 u (by omega) (by omega) (by omega) (by omega)).trans e0, e, j2, j3, j4, j5, fun on2 hon2 v hv => ?_⟩
    have hp := hwD.pr
    by_cases c1 : on2 = on
    · rw [c1]; exact k2 v hv
    · rw [k3 _ (by omega)]
      exact p on2 hon2 v hv
set_option maxHeartbeats 8000000 in
theorem x_circuitsAt {l : Launch} {G : GG} {h : AH} {nx : Nat} {Post : Option Value → AH → Nat → Prop} {u a b on up ver : Nat} {q : HKy} (hX : XC G ∧ TX l G) (hH : HTx h u a b q ver) (hq : WK q) (hD : XD h a (kD q)) (hE : XD h b (kE q)) (hon : on < 2 ^ dI (kD q)) (hup : up < 64) (hP : Post (some (.int (nI (kSh q on up)))) h nx) : Runs l G i_X3_circuitsAt 0 0 [.ref u, .int (nI (64 * on + up))] h nx Post := by
  obtain ⟨fs, gm, gw, gl, ge, e0, e, e1, e2, e3, e4, p⟩ := hH
  obtain ⟨hwD, hwE, hI, hR, hL, hf, hg, hs0, hsb, hone, _, _⟩ := id hq
  have hdE := hE.dx hwE
  rw [hI] at hdE
  have hhc : ∀ c, c < 11 → (huF (dow (kD q)) (kF q) ||| huF (dow (kD q)) (kG q)).testBit c = true → cirB (dR (kD q)) (dL (kD q)) c = true := by
    intro c hc hb2
    rw [Nat.testBit_or, Bool.or_eq_true] at hb2
    rcases hb2 with z | z
    · exact (okW_hu hwD hf c z).1
    · exact (okW_hu hwD hg c z).1
  obtain ⟨⟨wz, bz, cz, ⟨e16, f0, f6, f7, f8, f9, f10, f11⟩, bw, bb2, bc⟩, f1, f2, f3, f4, f5, f12, f13, f14, f15, sf, sg, hs1⟩ := e
  refine c_circuitsAt (hurt := huF (dow (kD q)) (kF q) ||| huF (dow (kD q)) (kG q)) (set := kS q) (st := kSt q) (su := kSu q) hX ⟨fs, e0, e16, f0, f1, f2, f6, f7, f8, f9, f10, f11⟩ (hD.dx hwD) hdE hon hup hs0 (Nat.or_lt_two_pow (n := 11) (okW_hu2 hwD hf) (okW_hu2 hwD hg)) hhc ?_
  rw [same_shut hwD.k bw bb2 bc hwD.d hwE.d (fun k hk => okW_cr hf hg hk) hsb hone hhc]
  exact hP
set_option maxHeartbeats 8000000 in
theorem x_lampsAt {l : Launch} {G : GG} {h : AH} {nx : Nat} {Post : Option Value → AH → Nat → Prop} {u a b on up ver : Nat} {q : HKy} (hX : XC G ∧ TX l G) (hH : HTx h u a b q ver) (hq : WK q) (hD : XD h a (kD q)) (hE : XD h b (kE q)) (hon : on < 2 ^ dI (kD q)) (hup : up < 64) (hP : Post (some (.int (nI (kSh q on up >>> 6)))) h nx) : Runs l G i_X3_lampsAt 0 0 [.ref u, .int (nI on), .int (nI up)] h nx Post := by
  have hpi := hq.1.pi
  have hsh := kSh_lt q on up
  refine en_X3_lampsAt hX [] 30 rfl ?_
  refine Exists.intro 0 (Exists.intro 0 (And.intro (Nat.le_refl _) (And.intro (Nat.le_refl _) (c_wordOf hX ?_))))
  rw [wordI (by omega) hup]
  obtain ⟨fs, gm, gw, gl, ge, e0, _⟩ := id hH
  refine Exists.intro _ (And.intro e0 (Exists.intro 0 (Exists.intro 0 (And.intro (Nat.le_refl _) (And.intro (Nat.le_refl _) (x_circuitsAt hX hH hq hD hE hon hup ?_))))))
  have e : (nI (kSh q on up) >>> ((6 : Int32) &&& 31)) &&& (31 : Int32) = nI (kSh q on up >>> 6) := by
    rw [show (nI (kSh q on up) >>> ((6 : Int32) &&& 31)) = nI (kSh q on up >>> 6) from nx_shr (k := 6) (by omega) (by decide), show (31 : Int32) = nI 31 from rfl, nx_and, show kSh q on up >>> 6 &&& 31 = kSh q on up >>> 6 from by rw [show (31 : Nat) = 2 ^ 5 - 1 from rfl, Nat.and_two_pow_sub_one_eq_mod, Nat.mod_eq_of_lt (by rw [Nat.shiftRight_eq_div_pow]; omega)]]
  rw [← e] at hP
  exact And.intro rfl (hP)
set_option maxHeartbeats 8000000 in
theorem x_inputCount {l : Launch} {G : GG} {h : AH} {nx : Nat} {Post : Option Value → AH → Nat → Prop} {u a b ver : Nat} {q : HKy} (hX : XC G ∧ TX l G) (hH : HTx h u a b q ver) (hD : XD h a (kD q)) (hP : Post (some (.int (nI (dI (kD q))))) h nx) : Runs l G i_X3_inputCount 0 0 [.ref u] h nx Post := by
  obtain ⟨fs, gm, gw, gl, ge, e0, e, _⟩ := hH
  obtain ⟨⟨wz, bz, cz, ⟨e16, f0, _⟩, _⟩, _⟩ := e
  obtain ⟨cc, g2, g3, g4, g5, g10, g13, g14, g16, g17, g18, g19, g27, g28, g1, g11, g12, d0, _⟩ := hD
  exact c_inputCount hX e0 f0 d0 rfl hP
/-- the lamps whose nevers hold are green -/
theorem nv_gr {lp : Nat → Nat} {P gr : Nat → Bool} {nL : Nat} : ∀ {n : Nat}, (∀ k, k < n → lp k < nL ∧ gr (lp k) = true) → ∀ i, (nvF lp P n).testBit i = true → (bsum gr nL).testBit i = true
  | 0, _, i, h => by
    rw [show nvF lp P 0 = 0 from rfl, Nat.zero_testBit] at h; cases h
  | n + 1, hn, i, h => by
    unfold nvF at h
    rw [Nat.testBit_or, Bool.or_eq_true] at h
    rcases h with h | h
    · exact nv_gr (fun k hk => hn k (by omega)) i h
    · split at h
      · rw [Nat.testBit_two_pow, decide_eq_true_eq] at h
        have := hn n (by omega)
        rw [bsum_tb, ← h, this.2, decide_eq_true this.1]
        rfl
      · rw [Nat.zero_testBit] at h
        cases h
set_option maxHeartbeats 8000000 in
theorem x_isWrong {l : Launch} {G : GG} {h : AH} {nx : Nat} {Post : Option Value → AH → Nat → Prop} {u a b x ver : Nat} {q : HKy} (hX : XC G ∧ TX l G) (hH : HTx h u a b q ver) (hq : WK q) (hD : XD h a (kD q)) (hE : XD h b (kE q)) (hx : kVal q x) (hP : Post (some (.int (nI (kW q x).toNat))) h nx) : Runs l G i_X3_isWrong 0 0 [.ref u, .int (nI x)] h nx Post := by
  have hp := hq.1.pr
  have hgr := hq.gr
  obtain ⟨fs, gm, gw, gl, ge, e0, e, _⟩ := id hH
  obtain ⟨_, f1, _⟩ := e
  have hfb := hE.fb hq.2.1
  rw [hq.2.2.1] at hfb
  have hdm : 64 * (x / 64) + x % 64 = x := Nat.div_add_mod x 64
  refine c_isWrongX (sv := kSh q (x / 64) (x % 64)) hX e0 f1 hfb (by have := hx.2.1; have : x / 64 + 1 ≤ 2 ^ dI (kD q) := hx.2.1; omega) (kSh_lt q _ _) (fun {Q} hQ => ?_) ?_
  · rw [show nI x = nI (64 * (x / 64) + x % 64) by rw [hdm]]
    exact x_circuitsAt hX hH hq hD hE hx.2.1 (by omega) hQ
  · have key : (kSh q (x / 64) (x % 64) >>> 6 &&& bsum (dgr (kD q)) (dL (kD q))) &&& nvF (dlp (kE q)) (fun k => dNV (kE q) k (x / 64) (x % 64)) (dV (kE q)) = kSh q (x / 64) (x % 64) >>> 6 &&& nvF (dlp (kE q)) (fun k => dNV (kE q) k (x / 64) (x % 64)) (dV (kE q)) := by
      refine Nat.eq_of_testBit_eq (fun r => ?_)
      simp only [Nat.testBit_and]
      cases hn : (nvF (dlp (kE q)) (fun k => dNV (kE q) k (x / 64) (x % 64)) (dV (kE q))).testBit r with
      | false => simp
      | true =>
        have := nv_gr (gr := dgr (kD q)) (nL := dL (kD q)) (fun k hk => by have h1 := hq.2.1.n k hk; rw [hq.2.2.2.2.1] at h1; exact ⟨h1.1, by rw [← hgr _ h1.1]; exact h1.2⟩) r hn
        rw [this]
        simp
    unfold kW wrB at hP
    rw [key] at hP
    exact hP
