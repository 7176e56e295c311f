/-! x's suite -/
abbrev TT2 : Type := Nat × (Nat → Nat)
/-- whether a test sees a flaw: act by act -/
noncomputable def sW (D : DD) (f : Nat) (p : TT2) : Nat → Nat → Nat → Int32 → Int32 → Bool
  | 0, _, _, _, _ => false
  | m + 1, i, on, A, B => if tLk D f on A B ≠ 0 then decide (tLk D f on A B = 1) else if i = p.1 then false else sW D f p m (i + 1) (on ^^^ 2 ^ p.2 i) (kSe (tq0 D) (on ^^^ 2 ^ p.2 i) A.toNatClampNeg) (kSe (tq1 D f) (on ^^^ 2 ^ p.2 i) B.toNatClampNeg)
noncomputable def seesT (D : DD) (f : Nat) (p : TT2) : Bool := sW D f p (p.1 + 1) 0 0 (tA0 D) (tB0 D f)
/-- a test of drawing D -/
def tOk (D : DD) (p : TT2) : Prop := p.1 ≤ 12 ∧ ∀ j, j < p.1 → p.2 j < dI D
theorem tLk_lt (D : DD) (f on : Nat) (a b : Int32) : tLk D f on a b < 3 := by
  unfold tLk
  repeat' split
  all_goals decide
theorem tLk_0 {D : DD} {f on : Nat} {a b : Int32} (h : tLk D f on a b = 0) : a ≠ -2 ∧ b ≠ -2 := by
  unfold tLk at h
  split at h
  · split at h <;> omega
  · split at h
    · omega
    · next h1 h2 => exact ⟨h1, h2⟩
def stB (D : DD) (f : Nat) (v : Int32) : Prop := v = -2 ∨ ∃ s, s < 2 ^ dR D ∧ v = nI s ∧ kOk (tq1 D f) s
theorem stB.a {D : DD} {f : Nat} {v : Int32} (h : stB D f v) : stA D v := h.imp id (fun ⟨s, a, b, _⟩ => ⟨s, a, b⟩)
theorem kSe_A {D : DD} {on s : Nat} (hw : WD D) (hs : s < 2 ^ dR D) : stA D (kSe (tq0 D) on s) := by
  rcases kSe_c (q := tq0 D) (WK_one hw okW_no okW_no) (on := on) hs with e | ⟨s, a1, e, _⟩
  · exact Or.inl e
  · exact Or.inr ⟨s, a1, e⟩
theorem kSe_B {D : DD} {f on s : Nat} (hw : WD D) (hf : okW D (some f)) (hs : s < 2 ^ dR D) (hk : kOk (tq1 D f) s) : stB D f (kSe (tq1 D f) on s) := by
  rcases kSe_c (q := tq1 D f) (WK_one hw hf okW_no) (on := on) hs with e | ⟨s, a1, e, c⟩
  · exact Or.inl e
  · exact Or.inr ⟨s, a1, e, c hk⟩
set_option maxHeartbeats 8000000 in
theorem x_isSeeing {l : Launch} {G : GG} {h : AH} {nx : Nat} {Post : Option Value → AH → Nat → Prop} {w a f v0 v1 qa tn : Nat} {x : Int64} {p : TT2} {D : DD} (hX : XC G ∧ TX l G) (hT : TB2 h w a D f v0 v1) (hO : TO h w qa tn) (hw : WD D) (hf : okW D (some f)) (ha : w + 137 ≤ a) (he : encT x (some p)) (hp : tOk D p) (hP : ∀ h1 : AH, (∀ y, y ≤ w + 43 ∨ (w + 48 ≤ y ∧ y ≤ w + 53) ∨ w + 58 ≤ y → h1 y = h y) → TB2 h1 w a D f v0 v1 → Post (some (.int (nI (seesT D f p).toNat))) h1 nx) : Runs l G i_X9_isSeeing 0 0 [.ref (w + 52), .long x] h nx Post := by
  have hpr := hw.pr
  have hpi := hw.pi
  have hi5 := hw.i
  have h12 := hp.1
  have loop : ∀ (m i on : Nat) (A B : Int32) (h1 : AH), i + m = p.1 + 1 → on < 2 ^ dI D → stA D A → stB D f B → (∀ y, y ≤ w + 43 ∨ (w + 48 ≤ y ∧ y ≤ w + 53) ∨ w + 58 ≤ y → h1 y = h y) → TB2 h1 w a D f v0 v1 → seesT D f p = sW D f p m i on A B → Go l G 9 s_X9_isSeeing 0 0 Post 33 [(7, .int (nI i)), (6, .int (nI p.1)), (5, .int B), (4, .int A), (3, .int (nI on)), (0, .ref (w + 52)), (1, .long x)] [] h1 nx 0 0 := by
    intro m
    induction m with
    | zero =>
      intro i on A B h1 hi hon hA hB hfr hT1 hs
      have hP := hP h1 hfr hT1
      rw [hs] at hP
      refine Go.of hX.2 ck_X9_isSeeing [33] 20 ?_
      refine And.intro (fun _ => ?_) (fun cz => absurd (nI_lt (a := p.1) (b := i) (by omega) (by omega)) cz)
      exact And.intro rfl (hP)
    | succ m ih =>
      intro i on A B h1 hi hon hA hB hfr hT1 hs
      have hO1 : TO h1 w qa tn := (hfr _ (by omega)).trans hO
      have hP1 := hP h1 hfr hT1
      rw [hs] at hP1
      unfold sW at hP1 hs
      refine Go.of hX.2 ck_X9_isSeeing [33, 86] 60 ?_
      refine And.intro (fun cz => absurd cz (nI_nlt (a := p.1) (b := i) (by omega) (by omega))) (fun _ => ?_)
      refine Exists.intro _ (And.intro hO1 (Exists.intro 0 (Exists.intro 0 (And.intro (Nat.le_refl _) (And.intro (Nat.le_refl _) (x_look hX hO1 hT1 hw hf hon hA hB.a ?_))))))
      have hlt := tLk_lt D f on A B
      have c012 : tLk D f on A B = 0 ∨ tLk D f on A B = 1 ∨ tLk D f on A B = 2 := by omega
      rcases c012 with c | c | c
      · rw [c]
        refine And.intro (fun _ => ?_) (fun cz => by first | exact absurd cz (by decide) | exact absurd (by decide) cz)
        rw [c, if_neg (fun z => z rfl)] at hs
        obtain ⟨n1, n2⟩ := tLk_0 c
        rcases hA with z | ⟨s, hs1, rfl⟩
        · exact absurd z n1
        · rcases hB with z | ⟨s2, hs2, rfl, hk2⟩
          · exact absurd z n2
          · by_cases c1 : i = p.1
            · rw [if_pos c1] at hs
              refine And.intro (fun _ => ?_) (fun cz => absurd (nI_le (a := p.1) (b := i) (by omega) (by omega)) cz)
              refine go_loc (lv' := [(7, .int (nI i + 1)), (6, .int (nI p.1)), (5, .int (nI s2)), (4, .int (nI s)), (3, .int (nI on)), (0, .ref (w + 52)), (1, .long x)]) ⟨rfl, rfl, rfl, rfl, rfl, rfl, rfl, trivial⟩ ?_
              rw [← nI_succ]
              refine Go.of hX.2 ck_X9_isSeeing [33] 20 ?_
              refine And.intro (fun _ => ?_) (fun cz => absurd (nI_lt (a := p.1) (b := i + 1) (by omega) (by omega)) cz)
              have hP := hP h1 hfr hT1
              rw [hs] at hP
              exact And.intro rfl (hP)
            · rw [if_neg c1, nI_clamp (by omega), nI_clamp (by omega)] at hs
              have hact := hp.2 i (by omega)
              have hon2 := xor_pow_lt hon hact
              refine And.intro (fun cz => absurd cz (nI_ge (a := i) (b := p.1) (by omega) (by omega))) (fun _ => ?_)
              have eact : aAt (some p) (nI i) = nI (p.2 i) := by
                show (if 0 ≤ nI i ∧ nI i < nI p.1 then nI (p.2 (nI i).toNatClampNeg) else -1) = _
                rw [if_pos ⟨nI_pos' (by omega), nI_lt (by omega) (by omega)⟩, nI_clamp (by omega)]
              refine Exists.intro 0 (Exists.intro 0 (And.intro (Nat.le_refl _) (And.intro (Nat.le_refl _) (x_actAt hX he ?_))))
              rw [eact]
              have e1 : nI on ^^^ ((1 : Int32) <<< (nI (p.2 i) &&& 31)) = nI (on ^^^ 2 ^ p.2 i) := by rw [nx_pow (by omega), nx_xor]
              refine go_loc (lv' := [(3, .int (nI on ^^^ ((1 : Int32) <<< (nI (p.2 i) &&& 31)))), (7, .int (nI i)), (6, .int (nI p.1)), (5, .int (nI s2)), (4, .int (nI s)), (0, .ref (w + 52)), (1, .long x)]) ⟨rfl, rfl, rfl, rfl, rfl, rfl, rfl, trivial⟩ ?_
              rw [e1]
              refine Go.of hX.2 ck_X9_isSeeing [33] 60 ?_
              obtain ⟨fs0, _, _, _, _, u0, _⟩ := id hT1.1
              refine Exists.intro _ (And.intro hO1 (Exists.intro _ (And.intro rfl ?_)))
              refine Exists.intro _ (And.intro u0 (Exists.intro 0 (Exists.intro 0 (And.intro (Nat.le_refl _) (And.intro (Nat.le_refl _) (x_settleS (bb := s) hX hT1 hw ha hon2 (by omega) (by rw [Nat.mod_eq_of_lt (by omega)]; exact hs1) (fun h2 y1 y2 => ?_)))))))
              rw [Nat.mod_eq_of_lt (show s < 64 by omega)]
              have hO2 : TO h2 w qa tn := (y1 _ (by omega)).trans hO1
              obtain ⟨fs1, _, _, _, _, u1, _⟩ := id y2.2.1
              refine Exists.intro _ (And.intro hO2 (Exists.intro _ (And.intro rfl ?_)))
              refine Exists.intro _ (And.intro u1 (Exists.intro 0 (Exists.intro 0 (And.intro (Nat.le_refl _) (And.intro (Nat.le_refl _) (x_settleF (bb := s2) hX y2 hw hf ha hon2 (by omega) (by rw [Nat.mod_eq_of_lt (by omega)]; exact hs2) (fun h3 z1 z2 => ?_)))))))
              rw [Nat.mod_eq_of_lt (show s2 < 64 by omega), kPl_id hk2]
              refine go_loc (lv' := [(7, .int (nI i + 1)), (6, .int (nI p.1)), (5, .int (kSe (tq1 D f) (on ^^^ 2 ^ p.2 i) s2)), (4, .int (kSe (tq0 D) (on ^^^ 2 ^ p.2 i) s)), (3, .int (nI (on ^^^ 2 ^ p.2 i))), (0, .ref (w + 52)), (1, .long x)]) ⟨rfl, rfl, rfl, rfl, rfl, rfl, rfl, trivial⟩ ?_
              rw [← nI_succ]
              exact ih (i + 1) _ _ _ h3 (by omega) hon2 (kSe_A hw hs1) (kSe_B hw hf hs2 hk2) (fun y hy => (z1 y (by omega)).trans ((y1 y (by omega)).trans (hfr y hy))) z2 hs
      · rw [c] at hP1
        rw [c]
        refine And.intro (fun cz => by first | exact absurd cz (by decide) | exact absurd (by decide) cz) (fun _ => ?_)
        refine And.intro (fun cz => by first | exact absurd cz (by decide) | exact absurd (by decide) cz) (fun _ => ?_)
        exact And.intro rfl (hP1)
      · rw [c] at hP1
        rw [c]
        refine And.intro (fun cz => by first | exact absurd cz (by decide) | exact absurd (by decide) cz) (fun _ => ?_)
        refine And.intro (fun _ => ?_) (fun cz => by first | exact absurd cz (by decide) | exact absurd (by decide) cz)
        exact And.intro rfl (hP1)
  obtain ⟨fs0, _, _, _, _, u0, _⟩ := id hT.1
  refine en_X9_isSeeing hX [33] 60 rfl ?_
  refine Exists.intro _ (And.intro hO (Exists.intro _ (And.intro rfl ?_)))
  refine Exists.intro _ (And.intro u0 (Exists.intro 0 (Exists.intro 0 (And.intro (Nat.le_refl _) (And.intro (Nat.le_refl _) (x_settleS (on := 0) (bb := 0) hX hT hw ha (Nat.two_pow_pos _) (by decide) (Nat.two_pow_pos _) (fun h2 y1 y2 => ?_)))))))
  have hO2 : TO h2 w qa tn := (y1 _ (by omega)).trans hO
  obtain ⟨fs1, _, _, _, _, u1, _⟩ := id y2.2.1
  refine Exists.intro _ (And.intro hO2 (Exists.intro _ (And.intro rfl ?_)))
  refine Exists.intro _ (And.intro u1 (Exists.intro 0 (Exists.intro 0 (And.intro (Nat.le_refl _) (And.intro (Nat.le_refl _) (x_settleF (on := 0) (bb := 0) hX y2 hw hf ha (Nat.two_pow_pos _) (by decide) (Nat.two_pow_pos _) (fun h3 z1 z2 => ?_)))))))
  rw [show kPl (tq1 D f) (0 % 64) = kSu (tq1 D f) from plc_0]
  have eA : kSe (tq0 D) 0 (0 % 64) = tA0 D := by unfold tA0; rw [kSu_0, Nat.zero_mod]
  rw [eA, show kSe (tq1 D f) 0 (kSu (tq1 D f)) = tB0 D f from rfl]
  refine Exists.intro 0 (Exists.intro 0 (And.intro (Nat.le_refl _) (And.intro (Nat.le_refl _) (x_actsOf hX he ?_))))
  refine go_loc (lv' := [(7, .int (nI 0)), (6, .int (nI p.1)), (5, .int (tB0 D f)), (4, .int (tA0 D)), (3, .int (nI 0)), (0, .ref (w + 52)), (1, .long x)]) ⟨rfl, rfl, rfl, rfl, rfl, rfl, rfl, trivial⟩ ?_
  exact loop (p.1 + 1) 0 0 _ _ h3 (Nat.zero_add _) (Nat.two_pow_pos _) (kSe_A hw (kSt_up (tq_ok hw hf).1).2) (kSe_B hw hf (kSt_up (tq_ok hw hf).2).2 kOk_su) (fun y hy => (z1 y (by omega)).trans (y1 y (by omega))) z2 rfl
/-- the capacity behind the least tests of the first so many flaws -/
noncomputable def capN (q : Nat) (kn : Nat → Bool) (D : DD) : Nat → Nat
  | 0 => q
  | i + 1 => tcap (capN q kn D i) kn D i
def kN (kn : Nat → Bool) (i : Nat) : Nat → Bool := fun j => decide (j < i) || kn j
theorem kN_0 (kn : Nat → Bool) : kN kn 0 = kn := by
  funext j
  unfold kN
  rw [decide_eq_false (Nat.not_lt_zero j), Bool.false_or]
theorem kN_s (kn : Nat → Bool) (i : Nat) : upB (kN kn i) i = kN kn (i + 1) := by
  funext j
  unfold upB kN
  by_cases e : j = i
  · rw [if_pos e, decide_eq_true (show j < i + 1 by omega), Bool.true_or]
  · rw [if_neg e]
    by_cases c : j < i
    · rw [decide_eq_true c, decide_eq_true (show j < i + 1 by omega)]
    · rw [decide_eq_false c, decide_eq_false (show ¬ j < i + 1 by omega)]
theorem kN_t (q : Nat) (kn : Nat → Bool) (D : DD) (i : Nat) : tcap q (kN kn i) D i = tcap q kn D i := by
  unfold tcap kN
  rw [decide_eq_false (Nat.lt_irrefl i), Bool.false_or]
theorem tRes_le {D : DD} {f : Nat} (hw : WD D) (hf : okW D (some f)) : (tRes D f).2.1 ≤ 131072 := by
  by_cases c0 : tL0 D f = 0
  · have := (tRun_in hw hf 131073 0 _ (TIn_0 hw hf c0)).1
    have e : tRes D f = tRun D f 131073 0 (S0F (tY0 D f)) := if_pos c0
    rw [e]
    exact this.le hw
  · have e : tRes D f = (none, (0, fun _ => 0, fun _ => (0, 0), 0)) := if_neg c0
    rw [e]
    exact Nat.zero_le _
theorem tcap_ok {q i : Nat} {kn : Nat → Bool} {D : DD} (hw : WD D) (hi : i < (flL D).length) (hq : QV q) : QV (tcap q kn D i) ∧ q ≤ tcap q kn D i := by
  unfold tcap
  split
  · exact ⟨hq, Nat.le_refl _⟩
  · have := capF_ok hq (tRes_le hw (flL_ok hw hi))
    exact ⟨this.1, this.2.1⟩
theorem capN_ok {q : Nat} {kn : Nat → Bool} {D : DD} (hw : WD D) (hq : QV q) : ∀ i, i ≤ (flL D).length → QV (capN q kn D i) ∧ q ≤ capN q kn D i
  | 0, _ => ⟨hq, Nat.le_refl _⟩
  | i + 1, hi => by
    have ih := capN_ok (kn := kn) hw hq i (by omega)
    have h2 := tcap_ok (kn := kn) hw (show i < (flL D).length by omega) ih.1
    exact ⟨h2.1, Nat.le_trans ih.2 h2.2⟩
theorem capN_mono {q : Nat} {kn : Nat → Bool} {D : DD} (hw : WD D) (hq : QV q) (i : Nat) : ∀ m, i + m ≤ (flL D).length → capN q kn D i ≤ capN q kn D (i + m)
  | 0, _ => Nat.le_refl _
  | m + 1, hm => Nat.le_trans (capN_mono hw hq i m (by omega)) (tcap_ok (kn := kn) hw (show i + m < (flL D).length by omega) (capN_ok hw hq (i + m) (by omega)).1).2
noncomputable def aHidden (D : DD) : Int32 := nI ((flL D).countP (fun n => (ltR D n).isNone))
set_option maxHeartbeats 8000000 in
theorem x_countHidden {l : Launch} {G : GG} {h : AH} {nx : Nat} {Post : Option Value → AH → Nat → Prop} {o w tl c t vb q0 : Nat} {fp ah sc : Int32} {da : Nat → Nat} {dd : Nat → DD} {kn : Nat → Bool} (hX : XC G ∧ TX l G) (hA : XA h o w tl fp c ah da dd) (hH : XH h w c da dd vb) (hS : XS2 h w c da dd vb) (hT : TRq h w nx c da q0) (hO : FO h (da t) sc) (hL : FLk h (da t) (dd t) kn) (ht : t < c) (hv : vb + 200 < 2 ^ 31) (hP : ∀ (h1 : AH) (nx1 : Nat), nx ≤ nx1 → XH h1 w c da dd (vb + 132) → XS2 h1 w c da dd (vb + 132) → TRq h1 w nx1 c da (capN q0 kn (dd t) (flL (dd t)).length) → FLk h1 (da t) (dd t) (kN kn (flL (dd t)).length) → FWl h h1 w c da (da t + 24) (da t + 26) → Post (some (.int (aHidden (dd t)))) h1 nx1) : Runs l G i_X9_countHidden (gC (capN q0 kn (dd t) (flL (dd t)).length) - gC q0) (gS (capN q0 kn (dd t) (flL (dd t)).length) - gS q0) [.ref (w + 52), .ref (da t)] h nx Post := by
  have hdt : isDr w c da dd (da t) (dd t) := Or.inr ⟨t, ht, rfl, rfl⟩
  obtain ⟨hD, hw, _⟩ := hdt.xd hA
  have hl := flL_len hw
  have hqv : QV q0 := by obtain ⟨_, _, _, _, _, _, _, _, z, _⟩ := hT; exact z
  have loop : ∀ (m i n : Nat) (h1 : AH) (nx1 kk nn : Nat), i + m = (flL (dd t)).length → n = ((flL (dd t)).take i).countP (fun n => (ltR (dd t) n).isNone) → nx ≤ nx1 → XH h1 w c da dd (vb + i) → XS2 h1 w c da dd (vb + i) → TRq h1 w nx1 c da (capN q0 kn (dd t) i) → FLk h1 (da t) (dd t) (kN kn i) → FWl h h1 w c da (da t + 24) (da t + 26) → kk = gC (capN q0 kn (dd t) i) - gC q0 → nn = gS (capN q0 kn (dd t) i) - gS q0 → Go l G 9 s_X9_countHidden (gC (capN q0 kn (dd t) (flL (dd t)).length) - gC q0) (gS (capN q0 kn (dd t) (flL (dd t)).length) - gS q0) Post 4 [(3, .int (nI i)), (2, .int (nI n)), (0, .ref (w + 52)), (1, .ref (da t))] [] h1 nx1 kk nn := by
    intro m
    induction m with
    | zero =>
      intro i n h1 nx1 kk nn hi hn hnx H1 S1 T1 L1 fr hk1 hk2
      have hA1 := fr.xa hA ht (by omega) (by omega)
      obtain ⟨hD1, _, _⟩ := hdt.xd hA1
      obtain ⟨_, _, _, _, _, _, _, _, _, _, _, _, _, _, _, _, _, d01, _⟩ := id hD1
      have e : i = (flL (dd t)).length := by omega
      subst e
      rw [List.take_of_length_le (Nat.le_refl _)] at hn
      refine Go.of hX.2 ck_X9_countHidden [4] 20 ?_
      refine Exists.intro _ (And.intro d01 (Exists.intro _ (And.intro rfl ?_)))
      refine And.intro (fun _ => ?_) (fun cz => absurd (nI_le (Nat.le_refl _) (by omega)) cz)
      have hP := hP h1 nx1 hnx (H1.le (by omega)) (S1.le (by omega)) T1 L1 fr
      unfold aHidden at hP
      rw [← hn] at hP
      exact And.intro rfl (hP)
    | succ m ih =>
      intro i n h1 nx1 kk nn hi hn hnx H1 S1 T1 L1 fr hk1 hk2
      have hA1 := fr.xa hA ht (by omega) (by omega)
      obtain ⟨hD1, _, _⟩ := hdt.xd hA1
      obtain ⟨_, _, _, _, _, _, _, _, _, _, _, _, _, _, _, _, _, d01, _⟩ := id hD1
      have hin : i < (flL (dd t)).length := by omega
      have hO1 : FO h1 (da t) sc := hO.ag (fr _ (Or.inr (Or.inr ⟨t, ht, by omega, by omega⟩)) (by omega))
      obtain ⟨_, _, _, _, tO1, _⟩ := id T1
      have m1 := gS_mono (capN_mono (kn := kn) hw hqv i 1 (by omega))
      have m2 := gS_mono (capN_mono (kn := kn) hw hqv (i + 1) (m) (by omega))
      have m0 := gS_mono (capN_ok (kn := kn) hw hqv i (by omega)).2
      rw [show i + 1 + m = (flL (dd t)).length by omega] at m2
      have ec : capN q0 kn (dd t) (i + 1) = tcap (capN q0 kn (dd t) i) (kN kn i) (dd t) i := (kN_t _ _ _ _).symm
      refine Go.of hX.2 ck_X9_countHidden [4] 60 ?_
      refine Exists.intro _ (And.intro d01 (Exists.intro _ (And.intro rfl ?_)))
      refine And.intro (fun cz => absurd cz (nI_ge (a := i) (b := (flL (dd t)).length) hin (by omega))) (fun _ => ?_)
      refine Exists.intro _ (And.intro tO1 (Exists.intro _ (Exists.intro _ (And.intro (show kk + (gC (tcap (capN q0 kn (dd t) i) (kN kn i) (dd t) i) - gC (capN q0 kn (dd t) i)) ≤ _ by rw [← ec]; omega) (And.intro (show nn + (gS (tcap (capN q0 kn (dd t) i) (kN kn i) (dd t) i) - gS (capN q0 kn (dd t) i)) ≤ _ by rw [← ec]; omega) (x_leastTest hX hA1 H1 S1 T1 hO1 L1 ht (by omega) hin (fun h2 nx2 x y1 y2 y3 y4 y5 y6 y7 => ?_)))))))
      rw [← ec] at y4
      rw [kN_s] at y5
      have hc := take_succ_count (P := fun n => (ltR (dd t) n).isNone) hin
      have fr2 := fr.tr y7
      rw [← ec]
      cases er : ltR (dd t) ((flL (dd t)).getD i 0) with
      | none =>
        rw [er] at y6
        rw [show (ltR (dd t) ((flL (dd t)).getD i 0)).isNone = true from by rw [er]; rfl, if_pos rfl] at hc
        have ex : x = -1 := y6
        subst ex
        refine And.intro (fun cz => by first | exact absurd cz (by decide) | exact absurd (by decide) cz) (fun _ => ?_)
        refine go_loc (lv' := [(3, .int (nI i + 1)), (2, .int (nI n + 1)), (0, .ref (w + 52)), (1, .ref (da t))]) ⟨rfl, rfl, rfl, rfl, trivial⟩ ?_
        rw [← nI_succ, ← nI_succ]
        exact ih (i + 1) (n + 1) h2 nx2 _ _ (by omega) (by rw [hc, hn]) (by omega) y2 y3 y4 y5 fr2 (by omega) (by omega)
      | some p =>
        rw [er] at y6
        rw [show (ltR (dd t) ((flL (dd t)).getD i 0)).isNone = false from by rw [er]; rfl, if_neg (by decide)] at hc
        have hne : x ≠ -1 := by
          obtain ⟨v, e1, hv2, _⟩ := y6
          have h1 := (encN_v hv2).1
          intro z
          rw [e1] at z
          have h2 := cmp_nn (v := v) (by omega)
          rw [z, cmp_m1] at h2
          exact absurd (by decide) h2
        refine And.intro (fun _ => ?_) (fun cz => absurd cz (fun z => hne (cmp_eq.mp z)))
        refine go_loc (lv' := [(3, .int (nI i + 1)), (2, .int (nI n + 0)), (0, .ref (w + 52)), (1, .ref (da t))]) ⟨rfl, rfl, rfl, rfl, trivial⟩ ?_
        rw [← nI_succ, show nI n + 0 = nI n from Int32.add_zero _]
        exact ih (i + 1) n h2 nx2 _ _ (by omega) (by rw [hc, hn]; rfl) (by omega) y2 y3 y4 y5 fr2 (by omega) (by omega)
  refine en_X9_countHidden hX [4] 20 rfl ?_
  refine go_loc (lv' := [(3, .int (nI 0)), (2, .int (nI 0)), (0, .ref (w + 52)), (1, .ref (da t))]) ⟨rfl, rfl, rfl, rfl, trivial⟩ ?_
  exact loop (flL (dd t)).length 0 0 h nx _ _ (Nat.zero_add _) rfl (Nat.le_refl _) hH hS hT (by rw [kN_0]; exact hL) (fun _ _ _ => rfl) (Nat.sub_self _).symm (Nat.sub_self _).symm
set_option maxHeartbeats 8000000 in
theorem x_hidden {l : Launch} {G : GG} {h : AH} {nx : Nat} {Post : Option Value → AH → Nat → Prop} {o w tl c t vb q0 : Nat} {fp sc : Int32} {da : Nat → Nat} {dd : Nat → DD} {kn : Nat → Bool} (hX : XC G ∧ TX l G) (hA : XA h o w tl fp c (nI t) da dd) (hH : XH h w c da dd vb) (hS : XS2 h w c da dd vb) (hT : TRq h w nx c da q0) (hO : FO h (da t) sc) (hL : FLk h (da t) (dd t) kn) (ht : t < c) (hv : vb + 200 < 2 ^ 31) (hP : ∀ (h1 : AH) (nx1 : Nat), nx ≤ nx1 → XH h1 w c da dd (vb + 132) → XS2 h1 w c da dd (vb + 132) → TRq h1 w nx1 c da (capN q0 kn (dd t) (flL (dd t)).length) → FLk h1 (da t) (dd t) (kN kn (flL (dd t)).length) → FWl h h1 w c da (da t + 24) (da t + 26) → Post (some (.int (aHidden (dd t)))) h1 nx1) : Runs l G i_X11_hidden (gC (capN q0 kn (dd t) (flL (dd t)).length) - gC q0) (gS (capN q0 kn (dd t) (flL (dd t)).length) - gS q0) [.ref o] h nx Post := by
  obtain ⟨_, _, _, _, tO_, _⟩ := id hT
  refine en_X11_hidden hX [] 20 rfl ?_
  refine Exists.intro _ (And.intro hA.1 (Exists.intro _ (And.intro rfl ?_)))
  refine Exists.intro _ (And.intro hA.1 (Exists.intro 0 (Exists.intro 0 (And.intro (by omega) (And.intro (by omega) (x_current hX hA ht ?_))))))
  refine Exists.intro _ (And.intro tO_ (Exists.intro _ (Exists.intro _ (And.intro (show 0 + 0 + (gC (capN q0 kn (dd t) (flL (dd t)).length) - gC q0) ≤ _ by omega) (And.intro (show 0 + 0 + (gS (capN q0 kn (dd t) (flL (dd t)).length) - gS q0) ≤ _ by omega) (x_countHidden hX hA hH hS hT hO hL ht hv (fun h1 nx1 y1 y2 y3 y4 y5 y6 => ?_)))))))
  exact And.intro rfl (hP h1 nx1 y1 y2 y3 y4 y5 y6)
