/-! the model reads: inputs, relays, lamps, nevers that were told -/
/-- which tokens stand between two statements -/
theorem nt_1 {kd : Nat → Nat} {t i t2 : Nat} (h : TXT kd t2) (hi : i < t2) (h1 : t ≤ i) (hs : zS (zz kd i) = 1) : zI (zz kd t) < zI (zz kd t2) := by
  have a := (h.s1 hi hs).2
  have b := (h.mo h1 (by omega)).1
  have c := (h.mo (show i + 1 ≤ t2 from hi) (Nat.le_refl _)).1
  omega
theorem nt_3 {kd : Nat → Nat} {t i t2 : Nat} (h : TXT kd t2) (hi : i < t2) (h1 : t ≤ i) (hs : zS (zz kd i) = 3) : zR (zz kd t) < zR (zz kd t2) := by
  have a := (h.s3 hi hs).2.1
  have b := (h.mo h1 (by omega)).2.1
  have c := (h.mo (show i + 1 ≤ t2 from hi) (Nat.le_refl _)).2.1
  omega
theorem nt_7 {kd : Nat → Nat} {t i t2 : Nat} (h : TXT kd t2) (hi : i < t2) (h1 : t ≤ i) (hs : zS (zz kd i) = 7) : zL (zz kd t) < zL (zz kd t2) := by
  have a := (h.s7 hi hs).2.1
  have b := (h.mo h1 (by omega)).2.2.1
  have c := (h.mo (show i + 1 ≤ t2 from hi) (Nat.le_refl _)).2.2.1
  omega
theorem nt_5 {kd : Nat → Nat} {t i t2 : Nat} (h : TXT kd t2) (h0 : zS (zz kd t) = 0) (hi : i < t2) (h1 : t ≤ i) (hs : zS (zz kd i) = 5) : zR (zz kd t) < zR (zz kd i) := by
  have a := (z_nbs h.1 h.2.1 h1 (show i ≤ t2 by omega)).2.1 (by unfold bS; omega)
  unfold bS at a
  omega
theorem nt_8 {kd : Nat → Nat} {t i t2 : Nat} (h : TXT kd t2) (h0 : zS (zz kd t) = 0) (hi : i < t2) (h1 : t ≤ i) (hs : zS (zz kd i) = 8) : zV (zz kd t) < zV (zz kd i) := by
  have a := (z_nbs h.1 h.2.1 h1 (show i ≤ t2 by omega)).2.2.2.2 (by unfold bW; omega)
  unfold bW at a
  omega
def HI (h0 h : AH) (o d : Nat) (kd : Nat → Nat) (vl : Nat → Int64) (t : Nat) : Prop := ∃ (g7 g8 k8 : Nat → Int32) (g9 : Nat → Int64), h (o + 1 + 7) = some (.inl (0, 5, .inl g7)) ∧ h (o + 1 + 8) = some (.inl (3, 25, .inl g8)) ∧ h (o + 1 + 9) = some (.inl (1, 25, .inr (.inl g9))) ∧ h0 (o + 1 + 8) = some (.inl (3, 25, .inl k8)) ∧ g7 d = nI (zI (zz kd t)) ∧ (∀ i, i < t → zS (zz kd i) = 1 → g8 (5 * d + zI (zz kd i)) = nI (decide (zT (zz kd i) = 5)).toNat ∧ g9 (5 * d + zI (zz kd i)) = vl i) ∧ ∀ k, zI (zz kd t) ≤ k → k < 5 → g8 (5 * d + k) = k8 (5 * d + k)
def HW (h : AH) (o d : Nat) (kd : Nat → Nat) (vl : Nat → Int64) (t : Nat) : Prop := ∃ (g10 g11 : Nat → Int32) (g12 : Nat → Int64), h (o + 1 + 10) = some (.inl (0, 5, .inl g10)) ∧ h (o + 1 + 11) = some (.inl (0, 30, .inl g11)) ∧ h (o + 1 + 12) = some (.inl (1, 30, .inr (.inl g12))) ∧ g10 d = nI (zR (zz kd t)) ∧ (∀ i, i < t → zS (zz kd i) = 3 → g12 (6 * d + zR (zz kd i)) = vl i) ∧ (∀ i, i < t → zS (zz kd i) = 5 → g11 (6 * d + (zR (zz kd i) - 1)) = nI (vl i).toInt.toNat) ∧ ∀ k, k < zR (zz kd t) → (∀ i, i < t → zS (zz kd i) = 5 → zR (zz kd i) ≠ k + 1) → g11 (6 * d + k) = nI 0
def HL (h : AH) (o d : Nat) (kd : Nat → Nat) (vl : Nat → Int64) (t : Nat) : Prop := ∃ (g13 g14 : Nat → Int32) (g15 : Nat → Int64), h (o + 1 + 13) = some (.inl (0, 5, .inl g13)) ∧ h (o + 1 + 14) = some (.inl (3, 25, .inl g14)) ∧ h (o + 1 + 15) = some (.inl (1, 25, .inr (.inl g15))) ∧ g13 d = nI (zL (zz kd t)) ∧ ∀ i, i < t → zS (zz kd i) = 7 → g14 (5 * d + zL (zz kd i)) = nI (decide (zT (zz kd i) = 9)).toNat ∧ g15 (5 * d + zL (zz kd i)) = vl i
def HV (h : AH) (o d : Nat) (kd : Nat → Nat) (vl : Nat → Int64) (t : Nat) : Prop := ∃ g16 g17 : Nat → Int32, h (o + 1 + 16) = some (.inl (0, 5, .inl g16)) ∧ h (o + 1 + 17) = some (.inl (0, 30, .inl g17)) ∧ g16 d = nI (zV (zz kd t)) ∧ ∀ i, i < t → zS (zz kd i) = 8 → (∀ j, j ≤ i → eXz kd vl j = 0) → g17 (6 * d + (zV (zz kd i) - 1)) = nI ((zG kd vl (toL kd i) (vl i)).getD 0)
section HS
variable {h0 h h' : AH} {o d t t2 : Nat} {kd : Nat → Nat} {vl : Nat → Int64}
theorem HI.stay (H : HI h0 h o d kd vl t) (hT : TXT kd t2) (hz : zI (zz kd t2) = zI (zz kd t)) (hs : ∀ j, 7 ≤ j → j < 10 → h' (o + 1 + j) = h (o + 1 + j)) : HI h0 h' o d kd vl t2 := by
  obtain ⟨g7, g8, k8, g9, a, b, c, e, r1, r2, r3⟩ := H
  refine ⟨g7, g8, k8, g9, (hs 7 (by omega) (by omega)).trans a, (hs 8 (by omega) (by omega)).trans b, (hs 9 (by omega) (by omega)).trans c, e, by rw [hz]; exact r1, fun i hi h1 => ?_, by rw [hz]; exact r3⟩
  rcases Nat.lt_or_ge i t with z | z
  · exact r2 i z h1
  · have := nt_1 hT hi z h1
    omega
theorem HW.stay (H : HW h o d kd vl t) (hT : TXT kd t2) (h00 : zS (zz kd t) = 0) (hz : zR (zz kd t2) = zR (zz kd t)) (htt : t ≤ t2) (hs : ∀ j, 10 ≤ j → j < 13 → h' (o + 1 + j) = h (o + 1 + j)) : HW h' o d kd vl t2 := by
  obtain ⟨g10, g11, g12, a, b, c, r1, r2, r3, r4⟩ := H
  refine ⟨g10, g11, g12, (hs 10 (by omega) (by omega)).trans a, (hs 11 (by omega) (by omega)).trans b, (hs 12 (by omega) (by omega)).trans c, by rw [hz]; exact r1, fun i hi h1 => ?_, fun i hi h1 => ?_, fun k hk h1 => ?_⟩
  · rcases Nat.lt_or_ge i t with z | z
    · exact r2 i z h1
    · have := nt_3 hT hi z h1
      omega
  · rcases Nat.lt_or_ge i t with z | z
    · exact r3 i z h1
    · have x := nt_5 hT h00 hi z h1
      have := (hT.mo (show i ≤ t2 by omega) (Nat.le_refl _)).2.1
      omega
  · exact r4 k (by omega) (fun i hi => h1 i (by omega))
theorem HL.stay (H : HL h o d kd vl t) (hT : TXT kd t2) (hz : zL (zz kd t2) = zL (zz kd t)) (hs : ∀ j, 13 ≤ j → j < 16 → h' (o + 1 + j) = h (o + 1 + j)) : HL h' o d kd vl t2 := by
  obtain ⟨g13, g14, g15, a, b, c, r1, r2⟩ := H
  refine ⟨g13, g14, g15, (hs 13 (by omega) (by omega)).trans a, (hs 14 (by omega) (by omega)).trans b, (hs 15 (by omega) (by omega)).trans c, by rw [hz]; exact r1, fun i hi h1 => ?_⟩
  rcases Nat.lt_or_ge i t with z | z
  · exact r2 i z h1
  · have := nt_7 hT hi z h1
    omega
theorem HV.stay (H : HV h o d kd vl t) (hT : TXT kd t2) (h00 : zS (zz kd t) = 0) (hz : zV (zz kd t2) = zV (zz kd t)) (hs : ∀ j, 16 ≤ j → j < 18 → h' (o + 1 + j) = h (o + 1 + j)) : HV h' o d kd vl t2 := by
  obtain ⟨g16, g17, a, b, r1, r2⟩ := H
  refine ⟨g16, g17, (hs 16 (by omega) (by omega)).trans a, (hs 17 (by omega) (by omega)).trans b, by rw [hz]; exact r1, fun i hi h1 h2 => ?_⟩
  rcases Nat.lt_or_ge i t with z | z
  · exact r2 i z h1 h2
  · have x := nt_8 hT h00 hi z h1
    have := (hT.mo (show i ≤ t2 by omega) (Nat.le_refl _)).2.2.2.1
    omega
/-- an input more -/
theorem HI.more {g7 g8 : Nat → Int32} {g9 : Nat → Int64} {i0 : Nat} (H : HI h0 h o d kd vl t) (hT : TXT kd t2) (hz : zI (zz kd t2) = zI (zz kd t) + 1) (h5 : zI (zz kd t) < 5) (hi0 : i0 < t2) (hs0 : zS (zz kd i0) = 1) (hz0 : zI (zz kd i0) = zI (zz kd t)) (e7 : h (o + 1 + 7) = some (.inl (0, 5, .inl g7))) (e8 : h (o + 1 + 8) = some (.inl (3, 25, .inl g8))) (e9 : h (o + 1 + 9) = some (.inl (1, 25, .inr (.inl g9)))) (n7 : h' (o + 1 + 7) = some (.inl (0, 5, .inl (upd g7 d (nI (zI (zz kd t) + 1)))))) (n8 : h' (o + 1 + 8) = some (.inl (3, 25, .inl (upd g8 (5 * d + zI (zz kd t)) (nI (decide (zT (zz kd i0) = 5)).toNat))))) (n9 : h' (o + 1 + 9) = some (.inl (1, 25, .inr (.inl (vp_updL g9 (5 * d + zI (zz kd t)) (vl i0)))))) : HI h0 h' o d kd vl t2 := by
  obtain ⟨q7, q8, k8, q9, a, b, c, e, r1, r2, r3⟩ := H
  rw [e7] at a
  rw [e8] at b
  rw [e9] at c
  cases a
  cases b
  cases c
  refine ⟨_, _, k8, _, n7, n8, n9, e, by rw [hz]; exact pk_us, fun i hi h1 => ?_, fun k h1 h2 => ?_⟩
  · by_cases ei : i = i0
    · rw [ei, hz0, pk_us, pk_uLs]
      exact ⟨rfl, rfl⟩
    · have hne : zI (zz kd i) ≠ zI (zz kd t) := fun z => ei ((tkI_c hT hi h1).symm.trans (by rw [z, ← hz0]; exact tkI_c hT hi0 hs0))
      have hit : i < t := by
        rcases Nat.lt_or_ge i t with z | z
        · exact z
        · have x := (hT.s1 hi h1).2
          have y := (hT.mo (show i + 1 ≤ t2 from hi) (Nat.le_refl _)).1
          have w := (hT.mo z (by omega)).1
          omega
      rw [pk_un (by omega), pk_uLn (by omega)]
      exact r2 i hit h1
  · rw [pk_un (by omega)]
    exact r3 k (by omega) h2
/-- a relay more -/
theorem HW.more {g10 g11 : Nat → Int32} {g12 : Nat → Int64} {i0 : Nat} {sv : Int32} (H : HW h o d kd vl t) (hT : TXT kd t2) (h00 : zS (zz kd t) = 0) (htt : t ≤ t2) (hz : zR (zz kd t2) = zR (zz kd t) + 1) (hi0 : i0 < t2) (hs0 : zS (zz kd i0) = 3) (hz0 : zR (zz kd i0) = zR (zz kd t)) (hsv : (∃ i1, i1 < t2 ∧ zS (zz kd i1) = 5 ∧ zR (zz kd i1) = zR (zz kd t) + 1 ∧ sv = nI (vl i1).toInt.toNat) ∨ ((∀ i, i < t2 → zS (zz kd i) = 5 → zR (zz kd i) ≠ zR (zz kd t) + 1) ∧ sv = nI 0)) (e10 : h (o + 1 + 10) = some (.inl (0, 5, .inl g10))) (e12 : h (o + 1 + 12) = some (.inl (1, 30, .inr (.inl g12)))) (e11 : h (o + 1 + 11) = some (.inl (0, 30, .inl g11))) {q11 : Nat → Int32} (n10 : h' (o + 1 + 10) = some (.inl (0, 5, .inl (upd g10 d (nI (zR (zz kd t) + 1)))))) (n11 : h' (o + 1 + 11) = some (.inl (0, 30, .inl q11))) (q1 : q11 (6 * d + zR (zz kd t)) = sv) (q2 : ∀ x, x ≠ 6 * d + zR (zz kd t) → q11 x = g11 x) (n12 : h' (o + 1 + 12) = some (.inl (1, 30, .inr (.inl (vp_updL g12 (6 * d + zR (zz kd t)) (vl i0)))))) : HW h' o d kd vl t2 := by
  obtain ⟨_, _, _, a, b, c, r1, r2, r3, r4⟩ := H
  rw [e10] at a
  rw [e11] at b
  rw [e12] at c
  cases a
  cases b
  cases c
  have p5 : ∀ {i : Nat}, i < t → zS (zz kd i) = 5 → 1 ≤ zR (zz kd i) ∧ zR (zz kd i) ≤ zR (zz kd t) := fun {i} hi h1 => ⟨(hT.s5 (show i < t2 by omega) h1).2.1, (hT.mo (show i ≤ t by omega) htt).2.1⟩
  refine ⟨_, _, _, n10, n11, n12, by rw [hz]; exact pk_us, fun i hi h1 => ?_, fun i hi h1 => ?_, fun k hk h1 => ?_⟩
  · by_cases ei : i = i0
    · rw [ei, hz0, pk_uLs]
    · have hne : zR (zz kd i) ≠ zR (zz kd t) := fun z => ei ((tkR_c hT hi h1).symm.trans (by rw [z, ← hz0]; exact tkR_c hT hi0 hs0))
      have hit : i < t := by
        rcases Nat.lt_or_ge i t with z | z
        · exact z
        · have x := (hT.s3 hi h1).2.1
          have y := (hT.mo (show i + 1 ≤ t2 from hi) (Nat.le_refl _)).2.1
          have w := (hT.mo z (by omega)).2.1
          omega
      rw [pk_uLn (by omega)]
      exact r2 i hit h1
  · rcases Nat.lt_or_ge i t with z | z
    · have := p5 z h1
      rw [q2 _ (by omega)]
      exact r3 i z h1
    · have x := nt_5 hT h00 hi z h1
      have y := (hT.mo (show i ≤ t2 by omega) (Nat.le_refl _)).2.1
      have e : zR (zz kd i) = zR (zz kd t) + 1 := by omega
      rcases hsv with ⟨i1, x1, x2, x3, x4⟩ | ⟨x1, _⟩
      · have ei : i = i1 := un5 hT hi x1 h1 x2 (by omega)
        rw [e, Nat.add_sub_cancel, q1, x4, ei]
      · exact absurd e (x1 i hi h1)
  · by_cases ek : k = zR (zz kd t)
    · subst ek
      rcases hsv with ⟨i1, x1, x2, x3, x4⟩ | ⟨_, x2⟩
      · exact absurd x3 (h1 i1 x1 x2)
      · rw [q1, x2]
    · rw [q2 _ (by omega)]
      exact r4 k (by omega) (fun i hi => h1 i (by omega))
/-- a lamp more -/
theorem HL.more {g13 g14 : Nat → Int32} {g15 : Nat → Int64} {i0 : Nat} (H : HL h o d kd vl t) (hT : TXT kd t2) (hz : zL (zz kd t2) = zL (zz kd t) + 1) (hi0 : i0 < t2) (hs0 : zS (zz kd i0) = 7) (hz0 : zL (zz kd i0) = zL (zz kd t)) (e13 : h (o + 1 + 13) = some (.inl (0, 5, .inl g13))) (e14 : h (o + 1 + 14) = some (.inl (3, 25, .inl g14))) (e15 : h (o + 1 + 15) = some (.inl (1, 25, .inr (.inl g15)))) (n13 : h' (o + 1 + 13) = some (.inl (0, 5, .inl (upd g13 d (nI (zL (zz kd t) + 1)))))) (n14 : h' (o + 1 + 14) = some (.inl (3, 25, .inl (upd g14 (5 * d + zL (zz kd t)) (nI (decide (zT (zz kd i0) = 9)).toNat))))) (n15 : h' (o + 1 + 15) = some (.inl (1, 25, .inr (.inl (vp_updL g15 (5 * d + zL (zz kd t)) (vl i0)))))) : HL h' o d kd vl t2 := by
  obtain ⟨_, _, _, a, b, c, r1, r2⟩ := H
  rw [e13] at a
  rw [e14] at b
  rw [e15] at c
  cases a
  cases b
  cases c
  refine ⟨_, _, _, n13, n14, n15, by rw [hz]; exact pk_us, fun i hi h1 => ?_⟩
  by_cases ei : i = i0
  · rw [ei, hz0, pk_us, pk_uLs]
    exact ⟨rfl, rfl⟩
  · have hne : zL (zz kd i) ≠ zL (zz kd t) := fun z => ei ((tkL_c hT hi h1).symm.trans (by rw [z, ← hz0]; exact tkL_c hT hi0 hs0))
    have hit : i < t := by
      rcases Nat.lt_or_ge i t with z | z
      · exact z
      · have x := (hT.s7 hi h1).2.1
        have y := (hT.mo (show i + 1 ≤ t2 from hi) (Nat.le_refl _)).2.2.1
        have w := (hT.mo z (by omega)).2.2.1
        omega
    rw [pk_un (by omega), pk_uLn (by omega)]
    exact r2 i hit h1
/-- a never more -/
theorem HV.more {g16 g17 : Nat → Int32} {i0 : Nat} {lv : Int32} (H : HV h o d kd vl t) (hT : TXT kd t2) (h00 : zS (zz kd t) = 0) (htt : t ≤ t2) (hz : zV (zz kd t2) = zV (zz kd t) + 1) (hi0 : i0 < t2) (hs0 : zS (zz kd i0) = 8) (hz0 : zV (zz kd i0) = zV (zz kd t) + 1) (e16 : h (o + 1 + 16) = some (.inl (0, 5, .inl g16))) (e17 : h (o + 1 + 17) = some (.inl (0, 30, .inl g17))) (n16 : h' (o + 1 + 16) = some (.inl (0, 5, .inl (upd g16 d (nI (zV (zz kd t) + 1)))))) (n17 : h' (o + 1 + 17) = some (.inl (0, 30, .inl (upd g17 (6 * d + zV (zz kd t)) lv)))) (hl : (∀ j, j ≤ i0 → eXz kd vl j = 0) → lv = nI ((zG kd vl (toL kd i0) (vl i0)).getD 0)) : HV h' o d kd vl t2 := by
  obtain ⟨_, _, a, b, r1, r2⟩ := H
  rw [e16] at a
  rw [e17] at b
  cases a
  cases b
  refine ⟨_, _, n16, n17, by rw [hz]; exact pk_us, fun i hi h1 h2 => ?_⟩
  rcases Nat.lt_or_ge i t with z | z
  · have x := (hT.s8 hi h1).2.2.2.1
    have y := (hT.mo (show i ≤ t by omega) htt).2.2.2.1
    rw [pk_un (by omega)]
    exact r2 i z h1 h2
  · have x := nt_8 hT h00 hi z h1
    have y := (hT.mo (show i ≤ t2 by omega) (Nat.le_refl _)).2.2.2.1
    have e : zV (zz kd i) = zV (zz kd t) + 1 := by omega
    have ei : i = i0 := (tkX_c hT hi h1 e).symm.trans (tkX_c hT hi0 hs0 hz0)
    subst ei
    rw [e, Nat.add_sub_cancel, pk_us]
    exact hl h2
end HS
