/-! x makes huts ready and goes through what is reached -/
theorem bI_races (nb : Nat → Nat → Option Nat) (k x : Nat) (S : BS) : ∀ i, S.2.2.2 ≤ (bI nb k x i S).2.2.2 ∧ (bI nb k x i S).2.2.2 ≤ S.2.2.2 + i
  | 0 => ⟨Nat.le_refl _, Nat.le_refl _⟩
  | i + 1 => by
    have ih := bI_races nb k x S i
    unfold bI
    split
    · show S.2.2.2 ≤ (bI nb k x i S).2.2.2 + 1 ∧ (bI nb k x i S).2.2.2 + 1 ≤ S.2.2.2 + (i + 1)
      omega
    · next y he =>
      have e : (bAdd (bI nb k x i S) y k i).2.2.2 = (bI nb k x i S).2.2.2 := by
        unfold bAdd
        split <;> rfl
      rw [e]
      omega
theorem bK_races1 (nb : Nat → Nat → Option Nat) (n : Nat) (S : BS) (k : Nat) : (bK nb n k S).2.2.2 ≤ (bK nb n (k + 1) S).2.2.2 ∧ (bK nb n (k + 1) S).2.2.2 ≤ (bK nb n k S).2.2.2 + n := by
  rw [show bK nb n (k + 1) S = if k < (bK nb n k S).1 then bI nb k ((bK nb n k S).2.1 k) n (bK nb n k S) else bK nb n k S from rfl]
  split
  · exact bI_races nb k _ _ n
  · omega
theorem bK_races (nb : Nat → Nat → Option Nat) (n : Nat) (S : BS) (k : Nat) : ∀ m, (bK nb n k S).2.2.2 ≤ (bK nb n (k + m) S).2.2.2
  | 0 => Nat.le_refl _
  | m + 1 => Nat.le_trans (bK_races nb n S k m) (bK_races1 nb n S (k + m)).1
theorem bK_races2 (nb : Nat → Nat → Option Nat) (n : Nat) (S : BS) : ∀ k, (bK nb n k S).2.2.2 ≤ S.2.2.2 + n * k
  | 0 => Nat.le_refl _
  | k + 1 => by
    have := bK_races2 nb n S k
    have := (bK_races1 nb n S k).2
    rw [Nat.mul_succ]
    omega
theorem kFn_races {q : HKy} (h : WK q) : (kFn q).2.2.2 < 20000 := by
  rcases kSe_c h (on := 0) (kSt_up h).2 with e | ⟨s, a, e, c⟩
  · rw [kFn_race e]
    show 1 < 20000
    decide
  · have hp := h.1.pr
    rw [kFn_go e (by omega)]
    have h1 := bK_races2 (kNb q) (dI (kD q)) (S0F s) 2048
    have h2 : dI (kD q) * 2048 ≤ 5 * 2048 := Nat.mul_le_mul_right _ h.1.i
    have h3 : (S0F s).2.2.2 = 0 := rfl
    omega
theorem wA_more {W : Nat → Bool} {row : Nat → Nat} {k : Nat} (h : wA W row k ≠ -1) : ∀ m, wA W row (k + m) = wA W row k
  | 0 => rfl
  | m + 1 => by
    have ih := wA_more h m
    rw [show wA W row (k + (m + 1)) = if wA W row (k + m) = -1 ∧ W (row (k + m)) = true then nI (k + m) else wA W row (k + m) from rfl, ih, if_neg (fun z => h z.1)]
theorem dpF_cg {fr fr2 : Nat → Nat} {Fn : Nat} (h : ∀ j, 0 < j → j < Fn → fr j < j ∧ fr2 j = fr j) : ∀ (f j : Nat), j < Fn → dpF fr2 f j = dpF fr f j
  | 0, _, _ => rfl
  | f + 1, j, hj => by
    unfold dpF
    by_cases e : j = 0
    · rw [if_pos e, if_pos e]
    · have h1 := h j (by omega) hj
      rw [if_neg e, if_neg e, h1.2, dpF_cg h f (fr j) (by omega)]
/-- the rows of the survey -/
def SVt (h : AH) (v u : Nat) (sv : Int32) (S : BS) (wa cm : Int32) (go : Nat → Int32) : Prop := ∃ (fs : List Value) (gq : Nat → Int32) (gs : Nat → Int64), CX h v u fs (v + 1) (v + 2) (v + 3) S wa sv cm gq go gs
/-- what they tell of hut q: all, or as much as was asked -/
def SVok (q : HKy) (S : BS) (wa cm : Int32) (go : Nat → Int32) : Prop := S.1 ≤ (kFn q).1 ∧ (kFn q).1 ≤ 2048 ∧ S.2.2.2 ≤ (kFn q).2.2.2 ∧ (∀ j, 0 < j → j < S.1 → go j = nI (8 * ((kFn q).2.2.1 j).1 + ((kFn q).2.2.1 j).2) ∧ ((kFn q).2.2.1 j).1 < j ∧ ((kFn q).2.2.1 j).2 < 8) ∧
  ((cm = 1 ∧ S.1 = (kFn q).1 ∧ S.2.2.2 = (kFn q).2.2.2 ∧ wa = kWa q) ∨ (cm = 0 ∧ ((0 ≤ wa ∧ wa = kWa q) ∨ (wa = -1 ∧ 0 < S.2.2.2)))) ∧ (wa = -1 ∨ ∃ j, j < S.1 ∧ wa = nI j)
/-- the survey at v, while hut u is hut q -/
def SVx (h : AH) (v u : Nat) (q : HKy) (ver : Nat) : Prop := ∃ (sv : Int32) (S : BS) (wa cm : Int32) (go : Nat → Int32), SVt h v u sv S wa cm go ∧ (sv = -1 ∨ ∃ n, n ≤ ver ∧ sv = nI n) ∧ (sv = nI ver → SVok q S wa cm go)
theorem SVt.ag {h h' : AH} {v u : Nat} {sv wa cm : Int32} {S : BS} {go : Nat → Int32} (hS : SVt h v u sv S wa cm go) (hs : ∀ x, v ≤ x → x < v + 4 → h' x = h x) : SVt h' v u sv S wa cm go := by
  obtain ⟨fs, gq, gs, e0, e1, e2, e3, e4, e5, e6, e7, e8, e9, e10, e11, e12, e13⟩ := hS
  exact ⟨fs, gq, gs, (hs _ (by omega) (by omega)).trans e0, e1, e2, e3, e4, e5, e6, e7, e8, e9, e10, (hs _ (by omega) (by omega)).trans e11, (hs _ (by omega) (by omega)).trans e12, (hs _ (by omega) (by omega)).trans e13⟩
theorem SVx.ag {h h' : AH} {v u ver : Nat} {q : HKy} (hS : SVx h v u q ver) (hs : ∀ x, v ≤ x → x < v + 4 → h' x = h x) : SVx h' v u q ver := by
  obtain ⟨sv, S, wa, cm, go, a, b, c⟩ := hS
  exact ⟨sv, S, wa, cm, go, a.ag hs, b, c⟩
/-- a newer hut: the survey knows nothing of it -/
theorem SVx.new {h : AH} {v u ver : Nat} {q q1 : HKy} (hS : SVx h v u q ver) (hv : ver + 1 < 2 ^ 31) : SVx h v u q1 (ver + 1) := by
  obtain ⟨sv, S, wa, cm, go, a, b, c⟩ := hS
  refine ⟨sv, S, wa, cm, go, a, ?_, fun e => ?_⟩
  · rcases b with b | ⟨n, h1, h2⟩
    · exact Or.inl b
    · exact Or.inr ⟨n, by omega, h2⟩
  · rcases b with b | ⟨n, h1, h2⟩
    · rw [b] at e
      exact absurd (show nI (ver + 1) < 0 from e ▸ (by decide)) (nI_pos hv)
    · rw [h2] at e
      have := (nI_eq (by omega) hv).mp e
      omega
set_option maxHeartbeats 8000000 in
theorem x_prepareMixed {l : Launch} {G : GG} {h : AH} {nx : Nat} {Post : Option Value → AH → Nat → Prop} {u a b a0 b0 ver : Nat} {q q0 : HKy} (hX : XC G ∧ TX l G) (hH : HTx h u a0 b0 q0 ver) (hq : WK q) (hD : XD h a (kD q)) (ida : a = a0 → kD q = kD q0) (idb : b = b0 → kE q = kE q0) (hP0 : a = a0 → b = b0 → q = q0 → Post none h nx) (hP : ∀ h1 : AH, (∀ x, x < u ∨ u + 2 ≤ x → h1 x = h x) → HTx h1 u a b q (ver + 1) → Post none h1 nx) : Runs l G i_X3_prepareMixed 0 0 [.ref u, .ref a, .ref b, .int (nI (kS q)), .int (flI (kF q)), .int (flI (kG q))] h nx Post := by
  obtain ⟨fs, gm, gw, gl, ge, e0, e, e1, e2, e3, e4, p⟩ := hH
  obtain ⟨hwD, hwE, hI, hR, hL, hf, hg, hs0, hsb, hone, _, _⟩ := id hq
  obtain ⟨cc, g2, g3, g4, g5, g10, g13, g14, g16, g17, g18, g19, g27, g28, g1, g11, g12, d0, d6, d1, d2, d3, d4, d5, d10, d11, d12, d13, d14, d16, d17, d18, d19, d27, d28, p1, _⟩ := hD
  refine c_prepareMixed (ow := dow (kD q)) hX e0 e e1 d0 rfl d18 (fun k hk => ⟨(p1 k hk).1, (hwD.c k hk).1⟩) hwD.k hwD.r (okW_F hf) (okW_F hg) hs0 (fun x1 x2 x3 x4 x5 => ?_) (fun _ fs1 gm1 y1 y2 => ?_)
  · refine hP0 x1 x2 ?_
    obtain ⟨D, E, s, f, g⟩ := q
    obtain ⟨D0, E0, s0, f0, g0⟩ := q0
    have z1 : D = D0 := ida x1
    have z2 : E = E0 := idb x2
    have z3 : s = s0 := x3
    have z4 : f = f0 := x4
    have z5 : g = g0 := x5
    rw [z1, z2, z3, z4, z5]
  · refine hP _ (fun x hx => by rw [uph_ne (by omega), uph_ne (by omega)]) ⟨fs1, gm1, gw, gl, ge, by rw [uph_ne (by omega)]; exact uph_eq, ?_, uph_eq, by rw [uph_ne (by omega), uph_ne (by omega)]; exact e2, by rw [uph_ne (by omega), uph_ne (by omega)]; exact e3, by rw [uph_ne (by omega), uph_ne (by omega)]; exact e4, fun on hon v hv => Or.inl (y2 _ ?_)⟩
    · rw [nI_succ]; exact y1
    · have := hwD.pr
      have := hwD.pi
      omega
set_option maxHeartbeats 8000000 in
theorem x_prepare {l : Launch} {G : GG} {h : AH} {nx : Nat} {Post : Option Value → AH → Nat → Prop} {u a a0 b0 ver : Nat} {q0 : HKy} {D : DD} {f g : Option Nat} (hX : XC G ∧ TX l G) (hH : HTx h u a0 b0 q0 ver) (hq : WK (kOne D f g)) (hD : XD h a D) (ida : a = a0 → D = kD q0) (idb : a = b0 → D = kE q0) (hP0 : a = a0 → a = b0 → kOne D f g = q0 → Post none h nx) (hP : ∀ h1 : AH, (∀ x, x < u ∨ u + 2 ≤ x → h1 x = h x) → HTx h1 u a a (kOne D f g) (ver + 1) → Post none h1 nx) : Runs l G i_X3_prepare 0 0 [.ref u, .ref a, .int (flI f), .int (flI g)] h nx Post := by
  obtain ⟨fs, gm, gw, gl, ge, e0, _⟩ := id hH
  refine en_X3_prepare hX [] 20 rfl ?_
  refine Exists.intro _ (And.intro e0 (Exists.intro 0 (Exists.intro 0 (And.intro (Nat.le_refl _) (And.intro (Nat.le_refl _) (x_prepareMixed (q := kOne D f g) hX hH hq hD ida idb hP0 hP))))))
theorem plc_0 {st su : Nat} : plc st su 0 = su := by
  unfold plc
  rw [Nat.zero_and, Nat.xor_zero, Nat.zero_or]
theorem kFn_le {q : HKy} {s k : Nat} (he : kSe q 0 (kSu q) = nI s) (hs : s < 64) (hk : k ≤ 2048) : (bK (kNb q) (dI (kD q)) k (S0F s)).1 ≤ (kFn q).1 ∧ (bK (kNb q) (dI (kD q)) k (S0F s)).2.2.2 ≤ (kFn q).2.2.2 ∧ ∀ j, j < (bK (kNb q) (dI (kD q)) k (S0F s)).1 → (kFn q).2.1 j = (bK (kNb q) (dI (kD q)) k (S0F s)).2.1 j ∧ (kFn q).2.2.1 j = (bK (kNb q) (dI (kD q)) k (S0F s)).2.2.1 j := by
  rw [kFn_go he hs, show 2048 = k + (2048 - k) by omega]
  exact ⟨(bK_mono _ _ _ _ _).1, bK_races _ _ _ _ _, (bK_mono _ _ _ _ _).2⟩
theorem AR_le {val : Nat → Prop} {S : BS} {gF gr gf gb : Nat → Int32} (h : AR val S gF gr gf gb) : S.1 ≤ 2048 := by
  have := h.2.2.2
  omega
theorem SVok_S {q : HKy} (hq : WK q) {s k : Nat} {wa cm : Int32} {go gq : Nat → Int32} {gs : Nat → Int64} (he : kSe q 0 (kSu q) = nI s) (hs : s < 2 ^ dR (kD q)) (hk : k ≤ 2048) (hF : (kFn q).1 ≤ 2048) (hc : CR (kVal q) (bK (kNb q) (dI (kD q)) k (S0F s)) gq go gs) (h1 : (cm = 1 ∧ (bK (kNb q) (dI (kD q)) k (S0F s)).1 = (kFn q).1 ∧ (bK (kNb q) (dI (kD q)) k (S0F s)).2.2.2 = (kFn q).2.2.2 ∧ wa = kWa q) ∨ (cm = 0 ∧ ((0 ≤ wa ∧ wa = kWa q) ∨ (wa = -1 ∧ 0 < (bK (kNb q) (dI (kD q)) k (S0F s)).2.2.2)))) (h2 : wa = -1 ∨ ∃ j, j < (bK (kNb q) (dI (kD q)) k (S0F s)).1 ∧ wa = nI j) : SVok q (bK (kNb q) (dI (kD q)) k (S0F s)) wa cm go := by
  have hp := hq.1.pr
  have hl := kFn_le (q := q) he (by omega) hk
  have ho := orgB_K (nb := kNb q) (n := dI (kD q)) (by have := hq.1.i; omega) (orgB_S0 s) k
  refine ⟨hl.1, hF, hl.2.1, fun j h0 hj => ?_, h1, h2⟩
  rw [(hl.2.2 j hj).2]
  exact ⟨(hc.1 j hj).2 h0, (ho j h0 hj).1, (ho j h0 hj).2⟩
theorem kFn_2048 {q : HKy} (hq : WK q) : (kFn q).1 ≤ 2048 := by
  rcases kSe_c hq (on := 0) (kSt_up hq).2 with e | ⟨s, a, e, c⟩
  · rw [kFn_race e]
    exact Nat.zero_le _
  · have hp := hq.1.pr
    have hv := kVal_S0 hq a e
    rw [kFn_go e (by omega)]
    have key : ∀ k, (∀ i j, i < j → j < (bK (kNb q) (dI (kD q)) k (S0F s)).1 → (bK (kNb q) (dI (kD q)) k (S0F s)).2.1 i ≠ (bK (kNb q) (dI (kD q)) k (S0F s)).2.1 j) := by
      have addD : ∀ (S : BS) (y k i : Nat), (∀ i j, i < j → j < S.1 → S.2.1 i ≠ S.2.1 j) → ∀ i2 j, i2 < j → j < (bAdd S y k i).1 → (bAdd S y k i).2.1 i2 ≠ (bAdd S y k i).2.1 j := by
        intro S y k i hS
        unfold bAdd
        split
        · exact hS
        · next hm =>
          intro i2 j hij hj
          have hj2 : j < S.1 + 1 := hj
          show upN S.2.1 S.1 y i2 ≠ upN S.2.1 S.1 y j
          rw [upN_n (show i2 ≠ S.1 by omega)]
          by_cases e : j = S.1
          · rw [e, upN_s]
            intro z
            exact hm (memB_iff.mpr ⟨i2, by omega, z⟩)
          · rw [upN_n e]
            exact hS i2 j hij (by omega)
      have inD : ∀ (S : BS) (k x : Nat), (∀ i j, i < j → j < S.1 → S.2.1 i ≠ S.2.1 j) → ∀ n, ∀ i2 j, i2 < j → j < (bI (kNb q) k x n S).1 → (bI (kNb q) k x n S).2.1 i2 ≠ (bI (kNb q) k x n S).2.1 j := by
        intro S k x hS n
        induction n with
        | zero => exact hS
        | succ n ih =>
          unfold bI
          split
          · exact ih
          · exact addD _ _ _ _ ih
      intro k
      induction k with
      | zero =>
        intro i j hij hj
        have hj2 : j < 1 := hj
        omega
      | succ k ih =>
        rw [show bK (kNb q) (dI (kD q)) (k + 1) (S0F s) = if k < (bK (kNb q) (dI (kD q)) k (S0F s)).1 then bI (kNb q) k ((bK (kNb q) (dI (kD q)) k (S0F s)).2.1 k) (dI (kD q)) (bK (kNb q) (dI (kD q)) k (S0F s)) else bK (kNb q) (dI (kD q)) k (S0F s) from rfl]
        split
        · exact inD _ _ _ ih _
        · exact ih
    have pig : ∀ (N n : Nat) (r : Nat → Nat), (∀ j, j < n → r j < N) → (∀ i j, i < j → j < n → r i ≠ r j) → n ≤ N := by
      intro N
      induction N with
      | zero =>
        intro n r h1 _
        cases n with
        | zero => exact Nat.le_refl 0
        | succ n => exact absurd (h1 0 (by omega)) (by omega)
      | succ N ih =>
        intro n r h1 h2
        cases n with
        | zero => omega
        | succ n =>
          refine Nat.succ_le_succ (ih n (fun j => if r j = N then r n else r j) (fun j hj => ?_) (fun i j hij hj => ?_))
          · have a1 := h1 j (by omega)
            have a2 := h1 n (by omega)
            have a3 := h2 j n hj (by omega)
            split <;> omega
          · have a1 := h2 i j hij (by omega)
            have a2 := h2 i n (by omega) (by omega)
            have a3 := h2 j n hj (by omega)
            split <;> split <;> omega
    exact pig 2048 _ _ (fun j hj => (hv 2048 j hj).1) (key 2048)
set_option maxHeartbeats 8000000 in
theorem x_explore {l : Launch} {G : GG} {h : AH} {nx : Nat} {Post : Option Value → AH → Nat → Prop} {u a b v ver : Nat} {q : HKy} {A B : Int32} (hX : XC G ∧ TX l G) (hH : HTx h u a b q ver) (hq : WK q) (hD : XD h a (kD q)) (hE : XD h b (kE q)) (ha : awy a u) (hb : awy b u) (hS : SVx h v u q ver) (hvu : v = u + 5) (ha2 : a + 29 ≤ u ∨ u + 9 ≤ a) (hb2 : b + 29 ≤ u ∨ u + 9 ≤ b) (hP : ∀ (h1 : AH) (S : BS) (wa cm : Int32) (go : Nat → Int32), (∀ x, x < u ∨ u + 9 ≤ x → h1 x = h x) → HTx h1 u a b q ver → SVt h1 v u (nI ver) S wa cm go → SVok q S wa cm go → (cm = 1 ∨ (A ≠ 0 ∧ 0 ≤ wa) ∨ (B ≠ 0 ∧ 0 < nI S.2.2.2)) → Post none h1 nx) : Runs l G i_X7_explore 0 0 [.ref v, .int A, .int B] h nx Post := by
  obtain ⟨sv, S1, wa1, cm1, go1, ⟨fs0, gq0, gs0, c0, cl, cf0, cf1, cf2, cf3, cf4, cf5, cf6, cf7, cf8, cq, co, cs⟩, hsv, hok⟩ := hS
  have hp := hq.1.pr
  have hpi := hq.1.pi
  have hF := kFn_2048 hq
  have hag : ∀ {h1 h2 : AH}, HTx h1 u a b q ver ∧ XD h1 a (kD q) ∧ XD h1 b (kE q) ∧ (∀ x, x < u ∨ u + 9 ≤ x → h1 x = h x) → (∀ x, x < v ∨ v + 4 ≤ x → h2 x = h1 x) → HTx h2 u a b q ver ∧ XD h2 a (kD q) ∧ XD h2 b (kE q) ∧ (∀ x, x < u ∨ u + 9 ≤ x → h2 x = h x) := by
    intro h1 h2 hI hs
    exact ⟨hI.1.ag (fun x _ _ => hs x (by omega)), hI.2.1.ag (fun x _ => hs x (by omega)), hI.2.2.1.ag (fun x _ => hs x (by omega)), fun x hx => (hs x (by omega)).trans (hI.2.2.2 x hx)⟩
  have done : ∀ {cm wa : Int32} {k s : Nat} {h1 : AH} {fs : List Value} {gq go : Nat → Int32} {gs : Nat → Int64}, s < 2 ^ dR (kD q) → kSe q 0 (kSu q) = nI s → (HTx h1 u a b q ver ∧ XD h1 a (kD q) ∧ XD h1 b (kE q) ∧ (∀ x, x < u ∨ u + 9 ≤ x → h1 x = h x)) → k ≤ 2048 → CX h1 v u fs (v + 1) (v + 2) (v + 3) (bK (kNb q) (dI (kD q)) k (S0F s)) wa (nI ver) cm gq go gs → SVok q (bK (kNb q) (dI (kD q)) k (S0F s)) wa cm go → (cm = 1 ∨ (A ≠ 0 ∧ 0 ≤ wa) ∨ (B ≠ 0 ∧ 0 < nI (bK (kNb q) (dI (kD q)) k (S0F s)).2.2.2)) → Post none h1 nx := by
    intro cm wa k s h1 fs gq go gs _ _ hI _ hC hk hst
    exact hP h1 _ wa cm go hI.2.2.2 hI.1 ⟨fs, gq, gs, hC⟩ hk hst
  refine c_explore (II := fun h1 => HTx h1 u a b q ver ∧ XD h1 a (kD q) ∧ XD h1 b (kE q) ∧ (∀ x, x < u ∨ u + 9 ≤ x → h1 x = h x)) (val := kVal q) (W := kW q) (u := u) (qq := v + 1) (qo := v + 2) (qn := v + 3) (nIn := dI (kD q)) (nR := dR (kD q)) (su := kSu q) (nxs := kNx q) (ver := nI ver) hX (fun h1 hI => ?_) (fun h1 x e hx hI => hag hI (fun y hy => uph_ne (by omega))) (fun h1 {Q} hI hQ => x_inputCount hX hI.1 hI.2.1 hQ) (fun h1 on x {Q} hI hon hx hQ => ?_) (fun x hx => ⟨hx.1, hx.2.1, hx.2.2.1⟩) (fun x i y hx hi hy => kNb_val hq hx hi hy) hq.1.i hq.1.r (fun on v => kNx_lt hq.1 on v) (by omega) (fun h1 x {Q} hI hx hQ => x_isWrong hX hI.1 hq hI.2.1 hI.2.2.1 hx hQ) (fun h1 h2 hI hs => hag hI (fun x hx => hs x (by omega) (by omega) (by omega) (by omega))) (fun h1 hI => ?_) ⟨hH, hD, hE, fun _ _ => rfl⟩ c0 cl cf0 cf1 cf2 cf3 cf5 cf6 cf7 cf8 cq co cs (kSt_up hq).2 (fun {Q} hQ => ?_) (fun s hs he => kVal_0 hq hs he) (fun e1 e2 => ?_) (fun hr h1 fs gs hI hC => ?_) (fun s0 hs0 he h1 fs gq go gs k hI hk hC hR hst => ?_) (fun s0 hs0 he h1 fs gq go gs k hI hk hC hR => ?_)
  · obtain ⟨⟨fs, gm, gw, gl, ge, e0, _⟩, _⟩ := hI
    exact ⟨_, e0⟩
  · have := hx.1
    refine x_settle (bb := x) hX hI.1 hq hI.2.1 hI.2.2.1 ha hb hon (by omega) hx.2.2.1 (fun h2 hs hH2 => ?_)
    rw [kPl_id hx.2.2.2]
    exact hQ h2 ⟨hH2, hI.2.1.ag (fun y _ => hs y (by unfold awy at ha; omega)), hI.2.2.1.ag (fun y _ => hs y (by unfold awy at hb; omega)), fun y hy => (hs y (by omega)).trans (hI.2.2.2 y hy)⟩ (fun y hy => hs y (by omega))
  · obtain ⟨⟨fs, gm, gw, gl, ge, e0, e, _⟩, _⟩ := hI
    exact ⟨_, e0, e.2.2.2.2.2.1⟩
  · refine x_settle (on := 0) (bb := 0) hX hH hq hD hE ha hb (Nat.two_pow_pos _) (by decide) (Nat.two_pow_pos _) (fun h2 hs hH2 => ?_)
    rw [show kPl q (0 % 64) = kSu q from plc_0]
    exact hQ h2 ⟨hH2, hD.ag (fun y _ => hs y (by unfold awy at ha; omega)), hE.ag (fun y _ => hs y (by unfold awy at hb; omega)), fun y hy => hs y (by omega)⟩ (fun y hy => hs y (by omega))
  · have hk := hok e1
    refine hP h S1 wa1 cm1 go1 (fun _ _ => rfl) hH ⟨fs0, gq0, gs0, c0, cl, cf0, cf1, cf2, cf3, cf4, cf5, cf6, cf7, by rw [← e1]; exact cf8, cq, co, cs⟩ hk ?_
    rcases e2 with e2 | e2
    · left
      rcases hk.2.2.2.2.1 with z | z
      · exact z.1
      · exact absurd z.1 e2
    · exact Or.inr e2
  · have e0 : kFn q = SRF := kFn_race hr
    refine hP h1 SRF (-1) 1 _ hI.2.2.2 hI.1 ⟨fs, _, gs, hC⟩ ?_ (Or.inl rfl)
    unfold SVok
    rw [e0]
    exact ⟨Nat.le_refl _, Nat.zero_le _, Nat.le_refl _, fun j _ hj => absurd hj (Nat.not_lt_zero j), Or.inl ⟨rfl, rfl, rfl, by unfold kWa; rw [e0]; rfl⟩, Or.inl rfl⟩
  · have hC2 : CX h1 v u fs (v + 1) (v + 2) (v + 3) (bK (kNb q) (dI (kD q)) k (S0F s0)) (wA (kW q) (bK (kNb q) (dI (kD q)) k (S0F s0)).2.1 (k + 1)) (nI ver) 0 gq go gs := hC
    have hR2 : CR (kVal q) (bK (kNb q) (dI (kD q)) k (S0F s0)) gq go gs := hR
    have hk2 : k < (bK (kNb q) (dI (kD q)) k (S0F s0)).1 := hk
    obtain ⟨gF, gr, gf, gb, hA⟩ := hR2.2.2
    have hle := AR_le hA
    have hl := kFn_le (q := q) he (by omega) (show k ≤ 2048 by omega)
    have hwv := wA_val (kW q) (bK (kNb q) (dI (kD q)) k (S0F s0)).2.1 (k + 1)
    refine done hs0 he hI (by omega) hC2 (SVok_S hq he hs0 (by omega) hF hR2 (Or.inr ⟨rfl, ?_⟩) ?_) (Or.inr hst)
    · rcases hwv with z | ⟨j, hj, z⟩
      · right
        refine ⟨z, ?_⟩
        have hst2 := hst
        rcases hst2 with ⟨_, z2⟩ | ⟨_, z2⟩
        · have z3 : (0 : Int32) ≤ wA (kW q) (bK (kNb q) (dI (kD q)) k (S0F s0)).2.1 (k + 1) := z2
          rw [z] at z3
          exact absurd z3 (by decide)
        · have z3 : 0 < nI (bK (kNb q) (dI (kD q)) k (S0F s0)).2.2.2 := z2
          have hrr := kFn_races hq
          rw [show (0 : Int32) = nI 0 from rfl] at z3
          exact (nI_ltI (by decide) (by omega)).mp z3
      · left
        refine ⟨by rw [z]; exact nI_pos' (by omega), ?_⟩
        unfold kWa
        have hne : wA (kW q) (kFn q).2.1 (k + 1) ≠ -1 := by
          rw [wA_cg (row := (bK (kNb q) (dI (kD q)) k (S0F s0)).2.1) (fun j hj => (hl.2.2 j (by omega)).1), z]
          exact fun zz => absurd (show nI j < 0 from zz ▸ (by decide)) (nI_pos (by omega))
        rw [show (kFn q).1 = (k + 1) + ((kFn q).1 - (k + 1)) by omega, wA_more hne, wA_cg (row := (bK (kNb q) (dI (kD q)) k (S0F s0)).2.1) (fun j hj => (hl.2.2 j (by omega)).1)]
    · rcases hwv with z | ⟨j, hj, z⟩
      · exact Or.inl z
      · exact Or.inr ⟨j, by omega, z⟩
  · have hC2 : CX h1 v u fs (v + 1) (v + 2) (v + 3) (bK (kNb q) (dI (kD q)) k (S0F s0)) (wA (kW q) (bK (kNb q) (dI (kD q)) k (S0F s0)).2.1 k) (nI ver) 1 gq go gs := hC
    have hR2 : CR (kVal q) (bK (kNb q) (dI (kD q)) k (S0F s0)) gq go gs := hR
    have hk2 : (bK (kNb q) (dI (kD q)) k (S0F s0)).1 = k := hk
    obtain ⟨gF, gr, gf, gb, hA⟩ := hR2.2.2
    have hle := AR_le hA
    have e0 : kFn q = bK (kNb q) (dI (kD q)) k (S0F s0) := by
      rw [kFn_go he (by omega), show 2048 = k + (2048 - k) by omega]
      exact bK_end (Nat.le_of_eq hk2) _
    have hwv := wA_val (kW q) (bK (kNb q) (dI (kD q)) k (S0F s0)).2.1 k
    refine done hs0 he hI (by omega) hC2 (SVok_S hq he hs0 (by omega) hF hR2 (Or.inl ⟨rfl, by rw [e0], by rw [e0], ?_⟩) ?_) (Or.inl rfl)
    · unfold kWa
      rw [e0, hk2]
    · rcases hwv with z | ⟨j, hj, z⟩
      · exact Or.inl z
      · exact Or.inr ⟨j, by omega, z⟩
