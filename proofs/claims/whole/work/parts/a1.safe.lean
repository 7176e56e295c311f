/-! is a mixed hut safe, on both sides -/
noncomputable def kSafe (q : HKy) : Bool := decide ((kFn q).2.2.2 = 0) && decide (kWa q = -1)
set_option maxHeartbeats 8000000 in
theorem m_isSafe {l : Launch} {G : GG} {h : AH} {nx : Nat} {Post : Option Value → AH → Nat → Prop} {o a b s : Nat} {D E : DD} {fs : List Value} (hX : XC G ∧ TX l G) (hM : MA h o fs) (hS : SHm h o) (hD : MPg h o a D) (hE : MPg h o b E) (hq : WK (kMix D E s)) (hP : ∀ (h1 : AH) (fs1 : List Value), MH h o fs h1 fs1 → Post (some (.int (nI (kSafe (kMix D E s)).toNat))) h1 nx) : Runs l G i_X12_isSafe 0 0 [.ref o, .int (nI a), .int (nI b), .int (nI s)] h nx Post := by
  have ha := hD.2.2.2.2.2.2.2
  have hw := hq.1
  obtain ⟨hwD, hwE, hI, hR, hL, _, _, hs0, hsb, _⟩ := id hq
  obtain ⟨g37, e37⟩ := hS.i 37 (by decide) (by decide) (t := 3) (n := 40) rfl
  obtain ⟨g38, e38⟩ := hS.i 38 (by decide) (by decide) (t := 3) (n := 40) rfl
  obtain ⟨g39, e39⟩ := hS.i 39 (by decide) (by decide) (t := 3) (n := 40) rfl
  have hlen := hM.2.1
  refine en_X12_isSafe hX [] 40 rfl ?_
  refine Exists.intro _ (And.intro hM.1 (Exists.intro 0 (Exists.intro 0 (And.intro (Nat.le_refl _) (And.intro (Nat.le_refl _) (c_sound hX hM e37 e38 e39 (fun s1 s2 s3 hz => ?_)))))))
  have R0 := ((((MH.rf hM hS).row1 (j := 37) (e := .inl (3, 40, .inl s1)) (by decide) (rowS_i (by decide) rfl ⟨s1, rfl⟩)).row1 (j := 38) (e := .inl (3, 40, .inl s2)) (by decide) (rowS_i (by decide) rfl ⟨s2, rfl⟩)).row1 (j := 39) (e := .inl (3, 40, .inl s3)) (by decide) (rowS_i (by decide) rfl ⟨s3, rfl⟩)).so
  generalize hh1 : uph (uph (uph (uph h (o + 1 + 37) (.inl (3, 40, .inl s1))) (o + 1 + 38) (.inl (3, 40, .inl s2))) (o + 1 + 39) (.inl (3, 40, .inl s3))) o (.inr (12, soF fs)) = h1 at R0
  have k37 : h1 (o + 1 + 37) = some (.inl (3, 40, .inl s1)) := by rw [← hh1, uph_ne (by omega), uph_ne (by omega), uph_ne (by omega)]; exact uph_eq
  have k38 : h1 (o + 1 + 38) = some (.inl (3, 40, .inl s2)) := by rw [← hh1, uph_ne (by omega), uph_ne (by omega)]; exact uph_eq
  have k39 : h1 (o + 1 + 39) = some (.inl (3, 40, .inl s3)) := by rw [← hh1, uph_ne (by omega)]; exact uph_eq
  have f61 : (soF fs)[61]? = some (.int (nI (skF none ||| skF none))) := by
    unfold soF
    rw [get_set_ne (by decide), List.getElem?_set_self (by omega)]
    rfl
  have f62 : (soF fs)[62]? = some (.int (nI (suF none ||| suF none))) := by
    unfold soF
    rw [List.getElem?_set_self (by rw [List.length_set]; omega)]
    rfl
  have W1 : WB h1 o (wl2 none none) (br2 none none) (cr2 none none) := ⟨s1, s2, s3, k37, k38, k39, fun k hk => (hz k hk).1, fun k hk => (hz k hk).2.1, fun k hk => (hz k hk).2.2⟩
  have D1 := R0.pg hD
  have E1 := R0.pg hE
  obtain ⟨b1, b2, b3, ⟨gI, eI, pI⟩, ⟨gw, ew, pw⟩, ⟨gg, eg, pg⟩, _⟩ := id D1
  obtain ⟨_, _, _, _, gR, _, _, _, _, _, _, _, _, e10, _, _, _, _, _, _, _, pR, _⟩ := id b1
  obtain ⟨g41, e41⟩ := R0.2.1.i 41 (by decide) (by decide) (t := 0) (n := 4096) rfl
  obtain ⟨g42, e42⟩ := R0.2.1.i 42 (by decide) (by decide) (t := 0) (n := 4096) rfl
  obtain ⟨g43, e43⟩ := R0.2.1.i 43 (by decide) (by decide) (t := 0) (n := 2) rfl
  obtain ⟨g44, e44⟩ := R0.2.1.i 44 (by decide) (by decide) (t := 0) (n := 2) rfl
  refine Exists.intro _ (And.intro R0.1.1 (Exists.intro 0 (Exists.intro 0 (And.intro (Nat.le_refl _) (And.intro (Nat.le_refl _) (c_lays (hh := 1) (st := skF none ||| skF none) (su := suF none ||| suF none) (set := s) (nIn := dI D) (sl := dsl D) hX R0.1 f61 f62 R0.2.1.sx b1 E1.1 W1 e41 e42 eI e10 ew e43 e44 ha (by decide) pI hwD.i pR hwD.r (fun r hr => ⟨pw r hr, hwD.s r hr⟩) (by decide) hs0 hsb (fun k hk => by unfold cr2 at hk; cases hk) (fun h2 gsh gse q1 q2 q3 q4 q5 q6 q7 q8 q9 q10 => ?_)))))))
  have R1 : MH h o fs h2 (soF fs) := by
    obtain ⟨a1, bb, c, dd2⟩ := R0
    refine ⟨a1.keep (q1 _ (by omega) (by omega) (by omega) (by omega) (by omega) (by omega) (by omega)), bb.upd (fun j hj => ?_), c, fun x hx => (q1 x (by omega) (by omega) (by omega) (by omega) (by omega) (by omega) (by omega)).trans (dd2 x hx)⟩
    by_cases c2 : j = 35 ∨ j = 36 ∨ j = 40 ∨ j = 41 ∨ j = 42 ∨ j = 43 ∨ j = 44
    · right
      rcases c2 with rfl | rfl | rfl | rfl | rfl | rfl | rfl
      · exact rowS_i (by decide) rfl q2.1
      · exact rowS_i (by decide) rfl q2.2.1
      · exact rowS_i (by decide) rfl q2.2.2
      · exact rowS_i (by decide) rfl ⟨_, q3⟩
      · exact rowS_i (by decide) rfl ⟨_, q4⟩
      · exact rowS_i (by decide) rfl ⟨_, q5⟩
      · exact rowS_i (by decide) rfl ⟨_, q6⟩
    · left
      exact q1 _ (by omega) (by omega) (by omega) (by omega) (by omega) (by omega) (by omega)
  have hB : HB h2 o 1 (kMix D E s) := ⟨gsh, gse, _, _, q3, q4, q5, q6, pk_us, pk_us, fun on hon v hv => ⟨q9 on hon v hv, q10 on hon v hv⟩⟩
  refine Exists.intro _ (And.intro R1.1.1 (Exists.intro 0 (Exists.intro 0 (And.intro (Nat.le_refl _) (And.intro (Nat.le_refl _) (m_reaches (hh := 1) (q := kMix D E s) hX R1.1 R1.2.1 (by decide) hq hB (R1.pg hD) (R1.pg hE) (fun h3 fs3 z1 z2 z3 z4 z5 => ?_)))))))
  have R2 : MH h o fs h3 fs3 := R1.tr ⟨z1, z2, fun k hk => z3 k (fun z => by rw [z] at hk; cases hk) (fun z => by rw [z] at hk; cases hk) (fun z => by rw [z] at hk; cases hk), fun x hx => z4 x (by omega)⟩
  obtain ⟨gr, gf, gb, _, _, _, r68, r73, r74, r2048, _⟩ := id z5
  have hP := hP h3 fs3 R2
  have hrl := kFn_races hq
  unfold kSafe at hP
  refine Exists.intro _ (And.intro R2.1.1 (Exists.intro _ (And.intro r73 ?_)))
  by_cases c1 : (kFn (kMix D E s)).2.2.2 = 0
  · rw [decide_eq_true c1, Bool.true_and] at hP
    refine And.intro (fun cz => absurd (show nI (kFn (kMix D E s)).2.2.2 = 0 from by rw [c1]; rfl) cz) (fun _ => ?_)
    refine Exists.intro _ (And.intro R2.1.1 (Exists.intro _ (And.intro r74 ?_)))
    by_cases c2 : kWa (kMix D E s) = -1
    · rw [decide_eq_true c2] at hP
      refine And.intro (fun cz => absurd (c2) cz) (fun _ => ?_)
      exact And.intro rfl (hP)
    · rw [decide_eq_false c2] at hP
      refine And.intro (fun _ => ?_) (fun cz => absurd cz (c2))
      exact And.intro rfl (hP)
  · rw [decide_eq_false c1, Bool.false_and] at hP
    refine And.intro (fun _ => ?_) (fun cz => absurd cz (nI_ne0 (by omega) (by omega)))
    exact And.intro rfl (hP)
theorem WK_sub {D E : DD} {s : Nat} (hw : WD D) (hv : WD E) (hs : sameP D E) (h : ∀ i, s.testBit i = true → (unlk D E).testBit i = true) : WK (kMix D E s) := by
  obtain ⟨eI, eR, eL, p1, p2, p3⟩ := hs
  refine WK_mix hw hv eI.symm eR.symm eL.symm (fun k hk => (p3 k hk).1.symm) ?_ (fun c hc hb => ?_)
  · refine Nat.lt_pow_two_of_testBit (n := 11) _ (fun i hi => ?_)
    cases c : s.testBit i with
    | false => rfl
    | true =>
      have := h i c
      rw [unlk_tb, decide_eq_false (by omega)] at this
      cases this
  · have := h c hb
    rw [unlk_tb, decide_eq_true hc, Bool.true_and] at this
    unfold alkB at this
    rw [Bool.not_not, Bool.and_eq_true] at this
    exact this.1
def subB (u : Nat) (x : Int32) : Bool := decide ((x &&& (nI u ^^^ (-1))) = 0)
theorem sub_c {u : Nat} {x : Int32} (hu : u < 2048) (h : subB u x = true) : ∃ s, s < 2048 ∧ x = nI s ∧ ∀ i, s.testBit i = true → u.testBit i = true := by
  have h0 : (x &&& (nI u ^^^ (-1))) = 0 := of_decide_eq_true h
  have hb : ∀ i, i < 32 → b_b x i = true → u.testBit i = true := fun i hi hx => by
    have e : b_b (x &&& (nI u ^^^ (-1))) i = b_b 0 i := by rw [h0]
    rw [b_and, b_xor, b_m1 i hi, b_0, bt_nI hi, hx] at e
    cases c : u.testBit i with
    | true => rfl
    | false => rw [c] at e; cases e
  refine ⟨bsum (fun i => b_b x i) 11, bsum_lt _ 11, b_ext (fun i hi => ?_), fun i hi => ?_⟩
  · rw [bt_nI hi, bsum_tb]
    by_cases c : i < 11
    · rw [decide_eq_true c]; rfl
    · rw [decide_eq_false c]
      cases d : b_b x i with
      | false => rfl
      | true =>
        have := hb i hi d
        rw [tb_big (k := 11) hu (by omega)] at this
        cases this
  · rw [bsum_tb, Bool.and_eq_true] at hi
    exact hb i (by have := of_decide_eq_true hi.1; omega) hi.2
theorem sub_of {u s : Nat} (h : ∀ i, s.testBit i = true → u.testBit i = true) : subB u (nI s) = true := by
  unfold subB
  rw [nx_andn, show s ^^^ (s &&& u) = 0 from Nat.eq_of_testBit_eq (fun i => by
    rw [Nat.testBit_xor, Nat.testBit_and, Nat.zero_testBit]
    cases c : s.testBit i with
    | false => rfl
    | true => rw [h i c]; rfl)]
  rfl
noncomputable def aSafe (c : Nat) (dd : Nat → DD) (a b x : Int32) : Int32 := if (inR a c && inR b c) = true then (if sameB (dd a.toNatClampNeg) (dd b.toNatClampNeg) = true then (if subB (unlk (dd a.toNatClampNeg) (dd b.toNatClampNeg)) x = true then nI (kSafe (kMix (dd a.toNatClampNeg) (dd b.toNatClampNeg) x.toNatClampNeg)).toNat else -1) else -2) else -1
set_option maxHeartbeats 8000000 in
theorem x_prepMix {l : Launch} {G : GG} {h : AH} {nx : Nat} {Post : Option Value → AH → Nat → Prop} {o w tl c i j s vb : Nat} {fp ah : Int32} {da : Nat → Nat} {dd : Nat → DD} (hX : XC G ∧ TX l G) (hA : XA h o w tl fp c ah da dd) (hH : XH h w c da dd vb) (hi : i < c) (hj : j < c) (hq : WK (kMix (dd i) (dd j) s)) (hv : vb + 1 < 2 ^ 31) (hP : ∀ (h1 : AH) (ver : Nat), (∀ x, x < w + 43 ∨ w + 45 ≤ x → h1 x = h x) → HTx h1 (w + 43) (da i) (da j) (kMix (dd i) (dd j) s) ver → SVx h1 (w + 48) (w + 43) (kMix (dd i) (dd j) s) ver → ver ≤ vb + 1 → Post none h1 nx) : Runs l G i_X3_prepareMixed 0 0 [.ref (w + 43), .ref (da i), .ref (da j), .int (nI s), .int (-1), .int (-1)] h nx Post := by
  obtain ⟨q, a, b, ver, x1, x2, x3, x4, x5, x6⟩ := hH
  have hdi : isDr w c da dd (da i) (dd i) := Or.inr ⟨i, hi, rfl, rfl⟩
  have hdj : isDr w c da dd (da j) (dd j) := Or.inr ⟨j, hj, rfl, rfl⟩
  refine x_prepareMixed (q := kMix (dd i) (dd j) s) hX x1 hq (hdi.xd hA).1 (fun e => hdi.one hA (e ▸ x3)) (fun e => hdj.one hA (e ▸ x4)) (fun e1 e2 e3 => ?_) (fun h1 y1 y2 => ?_)
  · refine hP h ver (fun _ _ => rfl) ?_ ?_ (by omega)
    · rw [e3]
      rw [← e1, ← e2] at x1
      exact x1
    · rw [e3]; exact x5
  · exact hP h1 (ver + 1) y1 y2 ((x5.new (by omega)).ag (fun x _ _ => y1 x (by omega))) (by omega)
theorem one_ne : (1 : Int32) ≠ 0 := by decide
/-- mixed, explored, and safe or not -/
theorem sv_safe {q : HKy} {S : BS} {wa cm : Int32} {go : Nat → Int32} (h : SVok q S wa cm go) (hc : cm = 1 ∨ ((1 : Int32) ≠ 0 ∧ 0 ≤ wa) ∨ ((1 : Int32) ≠ 0 ∧ 0 < nI S.2.2.2)) : (0 ≤ wa → kSafe q = false) ∧ (¬ 0 ≤ wa → S.2.2.2 ≠ 0 → kSafe q = false) ∧ (¬ 0 ≤ wa → S.2.2.2 = 0 → kSafe q = true) := by
  obtain ⟨k1, k0, k2, k3, k4, k5⟩ := h
  unfold kSafe
  refine ⟨fun hwa => ?_, fun hwa hr => ?_, fun hwa hr => ?_⟩
  · have e : wa = kWa q := by
      rcases k4 with ⟨_, _, _, z⟩ | ⟨_, ⟨_, z⟩ | ⟨z, _⟩⟩
      · exact z
      · exact z
      · rw [z] at hwa; exact absurd hwa (by decide)
    rw [decide_eq_false (p := kWa q = -1) (fun z => by rw [e, z] at hwa; exact absurd hwa (by decide)), Bool.and_false]
  · rw [decide_eq_false (p := (kFn q).2.2.2 = 0) (by omega), Bool.false_and]
  · rcases k4 with ⟨_, _, z1, z2⟩ | ⟨z0, ⟨z1, _⟩ | ⟨_, z1⟩⟩
    · have e : wa = -1 := by
        rcases k5 with z | ⟨j, _, z⟩
        · exact z
        · exfalso
          rcases hc with c | c | c
          · exact hwa (by
              rw [z]
              exact nI_pos' (by omega))
          · exact hwa c.2
          · rw [hr] at c; exact absurd c.2 (by decide)
      rw [← z1, hr, ← z2, e]
      rfl
    · exact absurd z1 hwa
    · omega
set_option maxHeartbeats 8000000 in
theorem x_safeNow {l : Launch} {G : GG} {h : AH} {nx : Nat} {Post : Option Value → AH → Nat → Prop} {v u : Nat} {sv : Int32} {q : HKy} {S : BS} {wa cm : Int32} {go : Nat → Int32} (hX : XC G ∧ TX l G) (hq : WK q) (hS : SVt h v u sv S wa cm go) (hk : SVok q S wa cm go) (hc : cm = 1 ∨ ((1 : Int32) ≠ 0 ∧ 0 ≤ wa) ∨ ((1 : Int32) ≠ 0 ∧ 0 < nI S.2.2.2)) (hP : Post (some (.int (nI (kSafe q).toNat))) h nx) : Runs l G i_X7_isSafe 0 0 [.ref v] h nx Post := by
  obtain ⟨z1, z2, z3⟩ := sv_safe hk hc
  have hr := kFn_races hq
  have hl : S.2.2.2 < 20000 := by have := hk.2.2.1; omega
  obtain ⟨fs, gq, gs, c0, cl, cf0, cf1, cf2, cf3, cf4, cf5, cf6, cf7, cf8, cq, co, cs⟩ := hS
  refine en_X7_isSafe hX [] 20 rfl ?_
  refine Exists.intro _ (And.intro c0 (Exists.intro _ (And.intro cf6 ?_)))
  by_cases c1 : 0 ≤ wa
  · rw [z1 c1] at hP
    refine And.intro (fun _ => ?_) (fun cz => absurd (c1) cz)
    exact And.intro rfl (hP)
  · refine And.intro (fun cz => absurd cz (c1)) (fun _ => ?_)
    refine Exists.intro _ (And.intro c0 (Exists.intro _ (And.intro cf5 ?_)))
    by_cases c2 : S.2.2.2 = 0
    · rw [z3 c1 c2] at hP
      refine And.intro (fun cz => absurd (show nI S.2.2.2 = 0 from by rw [c2]; rfl) cz) (fun _ => ?_)
      exact And.intro rfl (hP)
    · rw [z2 c1 c2] at hP
      refine And.intro (fun _ => ?_) (fun cz => absurd cz (nI_ne0 (by omega) (by omega)))
      exact And.intro rfl (hP)
set_option maxHeartbeats 8000000 in
theorem x_safe {l : Launch} {G : GG} {h : AH} {nx : Nat} {Post : Option Value → AH → Nat → Prop} {o w tl c vb : Nat} {fp ah a b x : Int32} {da : Nat → Nat} {dd : Nat → DD} (hX : XC G ∧ TX l G) (hA : XA h o w tl fp c ah da dd) (hH : XH h w c da dd vb) (hv : vb + 1 < 2 ^ 31) (hP : ∀ h1 : AH, (∀ x, x < w + 43 ∨ w + 52 ≤ x → h1 x = h x) → XH h1 w c da dd (vb + 1) → Post (some (.int (aSafe c dd a b x))) h1 nx) : Runs l G i_X11_safe 0 0 [.ref o, .int a, .int b, .int x] h nx Post := by
  have hc := hA.2.2.1
  have st := hP h (fun _ _ => rfl) (hH.le (by omega))
  unfold aSafe at hP st
  refine en_X11_safe hX [] 60 rfl ?_
  refine Exists.intro _ (And.intro hA.1 (Exists.intro 0 (Exists.intro 0 (And.intro (Nat.le_refl _) (And.intro (Nat.le_refl _) (x_unlike hX hA ?_))))))
  unfold aUnlike
  cases c1 : (inR a c && inR b c) with
  | false =>
    rw [if_neg (by rw [c1]; decide)] at st
    rw [if_neg (by decide)]
    refine And.intro (fun cz => absurd cz (show ¬ (0 : Int32) ≤ -1 from by decide)) (fun _ => ?_)
    exact And.intro rfl (st)
  | true =>
    rw [if_pos c1] at st
    rw [if_pos rfl]
    rw [Bool.and_eq_true] at c1
    obtain ⟨i, hi, rfl⟩ := (inR_c (by omega)).mp c1.1
    obtain ⟨j, hj, rfl⟩ := (inR_c (by omega)).mp c1.2
    rw [nI_clamp (by omega), nI_clamp (by omega)] at st
    rw [nI_clamp (by omega), nI_clamp (by omega)]
    have hdi : isDr w c da dd (da i) (dd i) := Or.inr ⟨i, hi, rfl, rfl⟩
    have hdj : isDr w c da dd (da j) (dd j) := Or.inr ⟨j, hj, rfl, rfl⟩
    obtain ⟨_, hw, hlo⟩ := hdi.xd hA
    obtain ⟨_, hv2, hlo2⟩ := hdj.xd hA
    unfold aUnlk
    cases cs : sameB (dd i) (dd j) with
    | false =>
      rw [if_neg (by rw [cs]; decide)] at st
      rw [if_neg (by decide)]
      refine And.intro (fun cz => absurd cz (show ¬ (0 : Int32) ≤ -2 from by decide)) (fun _ => ?_)
      exact And.intro rfl (st)
    | true =>
      rw [if_pos cs] at st
      rw [if_pos rfl]
      have hu := unlk_lt (dd i) (dd j)
      refine And.intro (fun _ => ?_) (fun cz => absurd (nI_pos' (by omega)) cz)
      cases cb : subB (unlk (dd i) (dd j)) x with
      | false =>
        rw [if_neg (by rw [cb]; decide)] at st
        refine And.intro (fun cz => absurd cz (of_decide_eq_false cb)) (fun _ => ?_)
        exact And.intro rfl (st)
      | true =>
        refine And.intro (fun _ => ?_) (fun cz => absurd (of_decide_eq_true cb) cz)
        obtain ⟨s, hs, rfl, hsub⟩ := sub_c hu cb
        have hq := WK_sub hw hv2 ((sameB_c hw hv2).mp cs) hsub
        obtain ⟨_, _, _, _, ⟨_, _, _, _, _, u0, _⟩, _⟩ := id hH
        refine Exists.intro _ (And.intro hA.1 (Exists.intro _ (And.intro rfl ?_)))
        refine Exists.intro _ (And.intro hA.1 (Exists.intro 0 (Exists.intro 0 (And.intro (Nat.le_refl _) (And.intro (Nat.le_refl _) (x_drawingOf hX hA hi ?_))))))
        refine Exists.intro _ (And.intro hA.1 (Exists.intro 0 (Exists.intro 0 (And.intro (Nat.le_refl _) (And.intro (Nat.le_refl _) (x_drawingOf hX hA hj ?_))))))
        refine Exists.intro _ (And.intro u0 (Exists.intro 0 (Exists.intro 0 (And.intro (Nat.le_refl _) (And.intro (Nat.le_refl _) (x_prepMix hX hA hH hi hj hq hv (fun h1 ver y1 y2 y3 y4 => ?_)))))))
        have hA1 : XA h1 o w tl fp c ah da dd := hA.mid (fun x hx => y1 x (by omega))
        obtain ⟨hD1, _, _⟩ := hdi.xd hA1
        obtain ⟨hE1, _, _⟩ := hdj.xd hA1
        refine Exists.intro _ (And.intro hA1.1 (Exists.intro _ (And.intro rfl ?_)))
        obtain ⟨_, _, _, _, _, ⟨_, _, _, s0, _⟩, _⟩ := id y3
        refine Exists.intro _ (And.intro s0 (Exists.intro 0 (Exists.intro 0 (And.intro (Nat.le_refl _) (And.intro (Nat.le_refl _) (x_explore (A := 1) (B := 1) hX y2 hq hD1 hE1 (by unfold awy; omega) (by unfold awy; omega) y3 rfl (by omega) (by omega) (fun h2 S wa cm go z1 z2 z3 z4 z5 => ?_)))))))
        have hA2 : XA h2 o w tl fp c ah da dd := hA1.mid (fun x hx => z1 x (by omega))
        have hP := hP h2 (fun x hx => (z1 x (by omega)).trans (y1 x (by omega))) ⟨_, _, _, _, z2, hq, hdi, hdj, z3.sx z4, y4⟩
        rw [if_pos (by rw [c1.1, c1.2]; rfl), nI_clamp (by omega), nI_clamp (by omega), if_pos cs, if_pos cb, nI_clamp (by omega)] at hP
        refine Exists.intro _ (And.intro hA2.1 (Exists.intro _ (And.intro rfl ?_)))
        obtain ⟨_, _, _, t0, _⟩ := id z3
        refine Exists.intro _ (And.intro t0 (Exists.intro 0 (Exists.intro 0 (And.intro (Nat.le_refl _) (And.intro (Nat.le_refl _) (x_safeNow hX hq z3 z4 z5 ?_))))))
        cases ck : kSafe (kMix (dd i) (dd j) s) with
        | false =>
          rw [ck] at hP
          refine And.intro (fun _ => ?_) (fun cz => by first | exact absurd cz (by decide) | exact absurd (by decide) cz)
          exact And.intro rfl (hP)
        | true =>
          rw [ck] at hP
          refine And.intro (fun cz => by first | exact absurd cz (by decide) | exact absurd (by decide) cz) (fun _ => ?_)
          exact And.intro rfl (hP)
