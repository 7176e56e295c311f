/-! x's least test of a flaw, from its entry -/
def t00 : BS := (0, fun _ => 0, fun _ => (0, 0), 0)
theorem t00_add (y : Nat) : bAdd t00 y 0 0 = S0F y := by
  show (1, upN (fun _ => 0) 0 y, upP (fun _ => (0, 0)) 0 (0, 0), 0) = (1, upN (fun _ => 0) 0 y, fun _ => (0, 0), 0)
  have e : upP (fun _ => (0, 0)) 0 (0, 0) = fun _ => (0, 0) := by
    funext j
    unfold upP
    split <;> rfl
  rw [e]
noncomputable def tS0 (D : DD) (f : Nat) : BS := if tL0 D f = 0 then S0F (tY0 D f) else t00
theorem tY0_val {D : DD} {f : Nat} (hw : WD D) (hf : okW D (some f)) (hl : tL0 D f = 0) : tVal D f (tY0 D f) ∧ ∃ s s2, s < 2 ^ dR D ∧ s2 < 2 ^ dR D ∧ tA0 D = nI s ∧ tB0 D f = nI s2 ∧ tY0 D f = 64 * s + s2 := by
  obtain ⟨q0, q1⟩ := tq_ok hw hf
  have hpr := hw.pr
  unfold tL0 tLk at hl
  split at hl
  · split at hl <;> omega
  · split at hl
    · omega
    · next n1 n2 =>
      rcases kSe_c q0 (on := 0) (kSt_up q0).2 with e | ⟨s, a, e, c⟩
      · exact absurd e n1
      · rcases kSe_c q1 (on := 0) (kSt_up q1).2 with e2 | ⟨s2, a2, e2, c2⟩
        · exact absurd e2 n2
        · have ea : tA0 D = nI s := e
          have eb : tB0 D f = nI s2 := e2
          have b1 : s < 2 ^ dR D := a
          have b2 : s2 < 2 ^ dR D := a2
          have ey : tY0 D f = 64 * s + s2 := by
            unfold tY0
            rw [ea, eb, nI_clamp (by omega), nI_clamp (by omega)]
          refine ⟨?_, s, s2, b1, b2, ea, eb, ey⟩
          rw [ey]
          have m1 : (64 * s + s2) % 64 = s2 := by omega
          have m2 : (64 * s + s2) / 64 % 64 = s := by omega
          have m3 : (64 * s + s2) / 4096 = 0 := by omega
          exact ⟨by rw [m3]; exact Nat.two_pow_pos _, by rw [m2]; exact b1, by rw [m1]; exact b2, by rw [m1]; exact c2 kOk_su⟩
theorem TIn_0 {D : DD} {f : Nat} (hw : WD D) (hf : okW D (some f)) (hl : tL0 D f = 0) : TIn D f (S0F (tY0 D f)) := by
  have hv := (tY0_val hw hf hl).1
  refine ⟨fun j hj => ?_, fun j h0 hj => ?_, fun i j hij hj => ?_, rfl, Nat.succ_pos _⟩
  · have hj2 : j < 1 := hj
    rw [show j = 0 by omega]
    show tVal D f (upN (fun _ => 0) 0 (tY0 D f) 0)
    rw [upN_s]
    exact hv
  · have hj2 : j < 1 := hj
    omega
  · have hj2 : j < 1 := hj
    omega
theorem tEnd_mono {D : DD} {f k : Nat} {S : BS} : S.1 ≤ (tEnd D f k S).1 ∧ ∀ j, j < S.1 → (tEnd D f k S).2.1 j = S.2.1 j ∧ (tEnd D f k S).2.2.1 j = S.2.2.1 j := by
  unfold tEnd
  split
  · exact bI_mono _ _ _ _ _
  · exact bI_mono _ _ _ _ _
theorem tEnd_tD {D : DD} {f k : Nat} {S : BS} (hI : TIn D f S) (hk : k < S.1) : (∀ j, j < S.1 → tD (tEnd D f k S) j = tD S j) ∧ ∀ j, S.1 ≤ j → j < (tEnd D f k S).1 → tD (tEnd D f k S) j = tD S k + 1 := by
  unfold tEnd
  split
  · exact (bI_tD hI.fr (by omega) hk _).2
  · exact (bI_tD hI.fr (by omega) hk _).2
theorem tRun_in {D : DD} {f : Nat} (hw : WD D) (hf : okW D (some f)) : ∀ (n k : Nat) (S : BS), TIn D f S → TIn D f (tRun D f n k S).2 ∧ S.1 ≤ (tRun D f n k S).2.1
  | 0, k, S, h => ⟨h, Nat.le_refl _⟩
  | n + 1, k, S, h => by
    unfold tRun
    by_cases c : k < S.1 ∧ tD S k < 12
    · rw [if_pos c]
      have h1 := tEnd_in hw hf h c.1
      have h2 := (tEnd_mono (D := D) (f := f) (k := k) (S := S)).1
      unfold tEnd at h1 h2
      split
      · next i e =>
        rw [e] at h1 h2
        exact ⟨h1, h2⟩
      · next e =>
        rw [e] at h1 h2
        have ih := tRun_in hw hf n (k + 1) _ h1
        exact ⟨ih.1, Nat.le_trans h2 ih.2⟩
    · rw [if_neg c]
      exact ⟨h, Nat.le_refl _⟩
theorem kSu_0 {D : DD} : kSu (tq0 D) = 0 := by
  show (0 ||| 0) = 0
  exact Nat.or_zero 0
set_option maxHeartbeats 8000000 in
theorem x_beginSearch {l : Launch} {G : GG} {h : AH} {nx : Nat} {Post : Option Value → AH → Nat → Prop} {w a f v0 v1 qa q0 tn : Nat} {D : DD} {gq gb : Nat → Int64} (hX : XC G ∧ TX l G) (hT : TB2 h w a D f v0 v1) (hO : TO h w qa tn) (hq : h qa = some (.inl (1, q0, .inr (.inl gq)))) (hb : h (w + 59) = some (.inl (1, 2048, .inr (.inl gb)))) (hQ : Qp w nx qa) (han : a + 29 ≤ nx) (hqa : qa < a ∨ a + 29 ≤ qa) (hw : WD D) (hf : okW D (some f)) (ha : w + 137 ≤ a) (hv : QV q0) (hP : ∀ (h1 : AH) (nx1 qa1 : Nat), FRt h h1 w qa nx → nx ≤ nx1 → (qa1 = qa ∨ nx ≤ qa1) → TT h1 w a D f v0 v1 nx1 qa1 q0 (tS0 D f) → Post (some (.int (nI (tL0 D f)))) h1 nx1) : Runs l G i_X9_beginSearch 0 0 [.ref (w + 52)] h nx Post := by
  have hpr := hw.pr
  have hpi := hw.pi
  have hq0 : 256 ≤ q0 := by unfold QV at hv; omega
  obtain ⟨Q1, Q2, Q3⟩ := id hQ
  refine en_X9_beginSearch hX [] 100 rfl ?_
  refine Exists.intro _ (And.intro hO (Exists.intro _ (And.intro rfl ?_)))
  refine Exists.intro 0 (Exists.intro 0 (And.intro (Nat.le_refl _) (And.intro (Nat.le_refl _) (c_fillL (v := 0) hX hb (by decide) (fun gz hz => ?_)))))
  refine Exists.intro _ (And.intro ((uph_ne (by omega)).trans hO) (And.intro (Nat.le_of_ble_eq_true rfl) (And.intro rfl (And.intro rfl ?_))))
  have hT1 : TB2 (uph (uph h (w + 59) (.inl (1, 2048, .inr (.inl gz)))) (w + 52) (.inr (9, [.ref (w + 53), .ref (w + 43), .ref qa, .int 0, .ref (w + 59)]))) w a D f v0 v1 := hT.ag (fun x hx => by rw [uph_ne (by omega), uph_ne (by omega)])
  have hO1 : TO (uph (uph h (w + 59) (.inl (1, 2048, .inr (.inl gz)))) (w + 52) (.inr (9, [.ref (w + 53), .ref (w + 43), .ref qa, .int 0, .ref (w + 59)]))) w qa 0 := uph_eq
  obtain ⟨fs0, _, _, _, _, u0, _⟩ := id hT1.1
  refine Exists.intro _ (And.intro uph_eq (Exists.intro _ (And.intro rfl ?_)))
  refine Exists.intro _ (And.intro u0 (Exists.intro 0 (Exists.intro 0 (And.intro (Nat.le_refl _) (And.intro (Nat.le_refl _) (x_settleS (on := 0) (bb := 0) hX hT1 hw ha (Nat.two_pow_pos _) (by decide) (Nat.two_pow_pos _) (fun h2 y1 y2 => ?_)))))))
  have hO2 : TO h2 w qa 0 := (y1 _ (by omega)).trans hO1
  obtain ⟨fs1, _, _, _, _, u1, _⟩ := id y2.2.1
  refine Exists.intro _ (And.intro hO2 (Exists.intro _ (And.intro rfl ?_)))
  refine Exists.intro _ (And.intro u1 (Exists.intro 0 (Exists.intro 0 (And.intro (Nat.le_refl _) (And.intro (Nat.le_refl _) (x_settleF (on := 0) (bb := 0) hX y2 hw hf ha (Nat.two_pow_pos _) (by decide) (Nat.two_pow_pos _) (fun h3 z1 z2 => ?_)))))))
  have hO3 : TO h3 w qa 0 := (z1 _ (by omega)).trans hO2
  rw [show kPl (tq1 D f) (0 % 64) = kSu (tq1 D f) from plc_0]
  have eA : kSe (tq0 D) 0 (0 % 64) = tA0 D := by unfold tA0; rw [kSu_0, Nat.zero_mod]
  rw [eA, show kSe (tq1 D f) 0 (kSu (tq1 D f)) = tB0 D f from rfl]
  have hsA : stA D (tA0 D) := by
    rcases kSe_c (tq_ok hw hf).1 (on := 0) (kSt_up (tq_ok hw hf).1).2 with e | ⟨s, a1, e, _⟩
    · exact Or.inl e
    · exact Or.inr ⟨s, a1, e⟩
  have hsB : stA D (tB0 D f) := by
    rcases kSe_c (tq_ok hw hf).2 (on := 0) (kSt_up (tq_ok hw hf).2).2 with e | ⟨s, a1, e, _⟩
    · exact Or.inl e
    · exact Or.inr ⟨s, a1, e⟩
  refine Exists.intro _ (And.intro hO3 (Exists.intro 0 (Exists.intro 0 (And.intro (Nat.le_refl _) (And.intro (Nat.le_refl _) (x_look (on := 0) hX hO3 z2 hw hf (Nat.two_pow_pos _) hsA hsB ?_))))))
  rw [show tLk D f 0 (tA0 D) (tB0 D f) = tL0 D f from rfl]
  have hb3 : h3 (w + 59) = some (.inl (1, 2048, .inr (.inl gz))) := (z1 _ (by omega)).trans ((y1 _ (by omega)).trans ((uph_ne (by omega)).trans uph_eq))
  have hq3 : h3 qa = some (.inl (1, q0, .inr (.inl gq))) := (z1 _ (by omega)).trans ((y1 _ (by omega)).trans ((uph_ne (by omega)).trans ((uph_ne (by omega)).trans hq)))
  have hfr3 : FRt h h3 w qa nx := fun x x1 x2 x3 x4 => by
    by_cases e52 : x = w + 52
    · omega
    · rw [z1 x (by omega), y1 x (by omega), uph_ne e52, uph_ne x4]
  have hR3 : TRh h3 w qa q0 t00 := ⟨gq, gz, hO3, by rw [show capF q0 t00.1 = q0 from capF_0 (Nat.zero_le _)]; exact hq3, hb3, fun j hj => absurd hj (Nat.not_lt_zero j), fun y hy => by rw [hz _ (by omega)]; exact bl_0 _⟩
  by_cases c0 : tL0 D f = 0
  · obtain ⟨hv0, s, s2, b1, b2, ea, eb, ey⟩ := tY0_val hw hf c0
    rw [c0] at hP
    rw [c0]
    refine And.intro (fun cz => by first | exact absurd cz (by decide) | exact absurd (by decide) cz) (fun _ => ?_)
    have e1 : tS0 D f = S0F (tY0 D f) := if_pos c0
    rw [e1, ← t00_add] at hP
    have hc1 : capF q0 (bAdd t00 (tY0 D f) 0 0).1 = q0 := by rw [t00_add]; exact capF_0 (show 1 ≤ q0 by omega)
    have hc0 : capF q0 t00.1 = q0 := capF_0 (Nat.zero_le _)
    have hrp := @x_reachPlace l G h3 nx (fun u h1 nx1 => u = none ∧ ∃ qa1, FRt h h1 w qa nx ∧ nx ≤ nx1 ∧ (qa1 = qa ∨ nx ≤ qa1) ∧ TT h1 w a D f v0 v1 nx1 qa1 q0 (bAdd t00 (tY0 D f) 0 0)) w qa q0 (tY0 D f) 0 0 0 s s2 t00 hX hv hR3 hQ (by rw [ey]; omega) (by decide) (by omega) (by omega) (by decide) (by rw [t00_add]; show 1 ≤ 131072; decide) (fun h4 nx4 qa4 g1 g2 g3 g4 g5 => ⟨rfl, qa4, fun x x1 x2 x3 x4 => by
        by_cases e52 : x = w + 52
        · omega
        · rw [g1 x e52 x4 x2 x1]; exact hfr3 x x1 x2 x3 x4, g2, g4, z2.ag (fun x hx => g1 x (by omega) (by omega) (by omega) (by omega)), g5, g3, by omega, g4.elim (fun e => by rw [e]; exact hqa) (fun e => by omega)⟩)
    rw [hc1, hc0, Nat.sub_self, Nat.sub_self] at hrp
    rw [ea, eb]
    refine Exists.intro _ (And.intro hO3 (Exists.intro 0 (Exists.intro 0 (And.intro (Nat.le_refl _) (And.intro (Nat.le_refl _) ?_)))))
    refine Runs.mono (fun u h4 nx4 hu => ?_) hrp
    obtain ⟨rfl, qa4, g1, g2, g3, g4⟩ := hu
    exact And.intro rfl (hP h4 nx4 qa4 g1 g2 g3 g4)
  · have hlt : tL0 D f < 3 := by
      unfold tL0 tLk
      repeat' split
      all_goals decide
    have e1 : tS0 D f = t00 := if_neg c0
    have hP := hP h3 nx qa hfr3 (Nat.le_refl _) (Or.inl rfl) (by rw [e1]; exact ⟨z2, hR3, hQ, han, hqa⟩)
    have c12 : tL0 D f = 1 ∨ tL0 D f = 2 := by omega
    rcases c12 with c | c
    · rw [c] at hP
      rw [c]
      refine And.intro (fun _ => ?_) (fun cz => by first | exact absurd cz (by decide) | exact absurd (by decide) cz)
      exact And.intro rfl (hP)
    · rw [c] at hP
      rw [c]
      refine And.intro (fun _ => ?_) (fun cz => by first | exact absurd cz (by decide) | exact absurd (by decide) cz)
      exact And.intro rfl (hP)
/-- the least tests that are known -/
noncomputable def FLk (h : AH) (d : Nat) (D : DD) (kn : Nat → Bool) : Prop := ∃ (g : Nat → Int32) (p : Nat → Int64), h (d + 24) = some (.inl (2, 132, .inl g)) ∧ h (d + 25) = some (.inl (1, 132, .inr (.inl p))) ∧ ∀ j, j < (flL D).length → g j = nI (kn j).toNat ∧ (kn j = true → encT (p j) (ltR D ((flL D).getD j 0)))
theorem FLk.ag {h h' : AH} {d : Nat} {D : DD} {kn : Nat → Bool} (hF : FLk h d D kn) (h1 : h' (d + 24) = h (d + 24)) (h2 : h' (d + 25) = h (d + 25)) : FLk h' d D kn := by
  obtain ⟨g, p, a, b, c⟩ := hF
  exact ⟨g, p, h1.trans a, h2.trans b, c⟩
def upB (kn : Nat → Bool) (i : Nat) : Nat → Bool := fun j => if j = i then true else kn j
/-- the trials' own things: the queue with its capacity -/
def TRq (h : AH) (w nx c : Nat) (da : Nat → Nat) (q : Nat) : Prop := ∃ (qa tn : Nat) (gq gb : Nat → Int64), TO h w qa tn ∧ h qa = some (.inl (1, q, .inr (.inl gq))) ∧ h (w + 59) = some (.inl (1, 2048, .inr (.inl gb))) ∧ Qp w nx qa ∧ QV q ∧ (∀ i, i < c → qa < da i ∨ da i + 29 ≤ qa) ∧ ∀ i, i < c → da i + 29 ≤ nx
/-- outside the middle and the drawings nothing is changed, nor there but from lo on below hi -/
def FWl (h h1 : AH) (w c : Nat) (da : Nat → Nat) (lo hi : Nat) : Prop := ∀ y, (y < w + 43 ∨ (w + 60 ≤ y ∧ y < w + 137) ∨ ∃ i, i < c ∧ da i ≤ y ∧ y < da i + 29) → (y < lo ∨ hi ≤ y) → h1 y = h y
theorem FWl.tr {h h1 h2 : AH} {w c : Nat} {da : Nat → Nat} {lo hi : Nat} (a : FWl h h1 w c da lo hi) (b : FWl h1 h2 w c da lo hi) : FWl h h2 w c da lo hi := fun y hy hx => (b y hy hx).trans (a y hy hx)
theorem FWl.wd {h h1 : AH} {w c : Nat} {da : Nat → Nat} {lo hi lo2 hi2 : Nat} (a : FWl h h1 w c da lo hi) (h1_ : lo2 ≤ lo) (h2_ : hi ≤ hi2) : FWl h h1 w c da lo2 hi2 := fun y hy hx => a y hy (by omega)
theorem FWl.xa {h h1 : AH} {o w tl c t lo hi : Nat} {fp ah : Int32} {da : Nat → Nat} {dd : Nat → DD} (a : FWl h h1 w c da lo hi) (hA : XA h o w tl fp c ah da dd) (ht : t < c) (hl : da t + 20 ≤ lo) (hh : hi ≤ da t + 27) : XA h1 o w tl fp c ah da dd := by
  have h8 := hA.2.2.2.2.2.2
  have h6 := hA.2.2.2.2.1
  have h7 := hA.2.2.2.2.2.1
  have h9 := (h6 t ht).2.2
  refine hA.ag (fun x hx => ?_)
  rcases hx with z | z | z | ⟨i, hi, z⟩
  · exact a x (by omega) (by omega)
  · exact a x (by omega) (by omega)
  · exact a x (by omega) (by omega)
  · have h10 := (h6 i hi).2.2
    refine a x (Or.inr (Or.inr ⟨i, hi, by omega, by omega⟩)) ?_
    by_cases e : i = t
    · subst e
      omega
    · rcases Nat.lt_or_gt_of_ne e with z2 | z2
      · have := h7 i t z2 ht
        omega
      · have := h7 t i z2 hi
        omega
noncomputable def tcap (q : Nat) (kn : Nat → Bool) (D : DD) (i : Nat) : Nat := if kn i = true then q else capF q (tRes D ((flL D).getD i 0)).2.1
