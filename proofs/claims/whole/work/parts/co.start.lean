/-! the world at the start -/
theorem kw_p : ∀ i, i < 8 → kwF i = packS i := by decide +kernel
theorem km_p : ∀ i, i < 8 → kmF i = packS i := by decide +kernel
theorem flL_0 : flL D0 = [] := by decide +kernel
theorem cirB_0 : ∀ c, c < 11 → cirB 0 0 c = false := by decide
theorem it_0 : ∀ i, i < 16 → (0 : Int64) = itN D0 i ∧ (0 : Int32) = nI (itS D0 i) := by decide +kernel
theorem sm_0 : smF none := fun _ e => by cases e
theorem WK_0 : WK (D0, D0, 0, none, none) := by
  have ok : okW D0 none := fun _ e => by cases e
  exact ⟨WD_0, WD_0, rfl, rfl, rfl, ok, ok, by decide, fun c _ (hb : Nat.testBit 0 c = true) => absurd ((Nat.zero_testBit c).symm.trans hb) Bool.false_ne_true, Or.inl rfl, Or.inl rfl, fun _ => Or.inl rfl⟩
theorem MA_0 {h : AH} {o : Nat} (hO : h o = some (.inr (12, fsM (o + 1)))) : MA h o (fsM (o + 1)) := ⟨hO, rfl, fun j hj => by
  match j, hj with
  | 0, _ => rfl
  | 1, _ => rfl
  | 2, _ => rfl
  | 3, _ => rfl
  | 4, _ => rfl
  | 5, _ => rfl
  | 6, _ => rfl
  | 7, _ => rfl
  | 8, _ => rfl
  | 9, _ => rfl
  | 10, _ => rfl
  | 11, _ => rfl
  | 12, _ => rfl
  | 13, _ => rfl
  | 14, _ => rfl
  | 15, _ => rfl
  | 16, _ => rfl
  | 17, _ => rfl
  | 18, _ => rfl
  | 19, _ => rfl
  | 20, _ => rfl
  | 21, _ => rfl
  | 22, _ => rfl
  | 23, _ => rfl
  | 24, _ => rfl
  | 25, _ => rfl
  | 26, _ => rfl
  | 27, _ => rfl
  | 28, _ => rfl
  | 29, _ => rfl
  | 30, _ => rfl
  | 31, _ => rfl
  | 32, _ => rfl
  | 33, _ => rfl
  | 34, _ => rfl
  | 35, _ => rfl
  | 36, _ => rfl
  | 37, _ => rfl
  | 38, _ => rfl
  | 39, _ => rfl
  | 40, _ => rfl
  | 41, _ => rfl
  | 42, _ => rfl
  | 43, _ => rfl
  | 44, _ => rfl
  | 45, _ => rfl
  | 46, _ => rfl
  | 47, _ => rfl
  | 48, _ => rfl
  | 49, _ => rfl
  | 50, _ => rfl
  | 51, _ => rfl
  | 52, _ => rfl
  | 53, _ => rfl
  | 54, _ => rfl
  | 55, _ => rfl
  | 56, _ => rfl
  | 57, _ => rfl
  | 58, _ => rfl
  | 59, _ => rfl
  | 60, _ => rfl
  | 61, _ => rfl
  | 62, _ => rfl
  | n + 63, hn => exact absurd hn (by omega)⟩
theorem SHm_0 {h h0 : AH} {o : Nat} (hM : Mk h0 (o + 1) o 12 h (fsM (o + 1)) arM) : SHm h o := fun j hj => by
  match j, hj with
  | 0, _ => exact (⟨_, hM.2.2 0 _ rfl⟩ : ∃ g : Nat → Int32, h (o + 1 + 0) = some (.inl (2, 2000, .inl g)))
  | 1, _ => exact (⟨_, hM.2.2 1 _ rfl⟩ : ∃ g : Nat → Int32, h (o + 1 + 1) = some (.inl (2, 2000, .inl g)))
  | 2, _ => exact (⟨_, hM.2.2 2 _ rfl⟩ : ∃ g : Nat → Int32, h (o + 1 + 2) = some (.inl (0, 403, .inl g)))
  | 3, _ => exact (⟨_, hM.2.2 3 _ rfl⟩ : ∃ g : Nat → Int32, h (o + 1 + 3) = some (.inl (0, 403, .inl g)))
  | 4, _ => exact (⟨_, hM.2.2 4 _ rfl⟩ : ∃ g : Nat → Int32, h (o + 1 + 4) = some (.inl (0, 403, .inl g)))
  | 5, _ => exact (⟨_, hM.2.2 5 _ rfl⟩ : ∃ g : Nat → Int64, h (o + 1 + 5) = some (.inl (1, 403, .inr (.inl g))))
  | 6, _ => exact (⟨_, hM.2.2 6 _ rfl⟩ : ∃ g : Nat → Int64, h (o + 1 + 6) = some (.inl (1, 8, .inr (.inl g))))
  | 7, _ => exact (⟨_, hM.2.2 7 _ rfl⟩ : ∃ g : Nat → Int32, h (o + 1 + 7) = some (.inl (0, 5, .inl g)))
  | 8, _ => exact (⟨_, hM.2.2 8 _ rfl⟩ : ∃ g : Nat → Int32, h (o + 1 + 8) = some (.inl (3, 25, .inl g)))
  | 9, _ => exact (⟨_, hM.2.2 9 _ rfl⟩ : ∃ g : Nat → Int64, h (o + 1 + 9) = some (.inl (1, 25, .inr (.inl g))))
  | 10, _ => exact (⟨_, hM.2.2 10 _ rfl⟩ : ∃ g : Nat → Int32, h (o + 1 + 10) = some (.inl (0, 5, .inl g)))
  | 11, _ => exact (⟨_, hM.2.2 11 _ rfl⟩ : ∃ g : Nat → Int32, h (o + 1 + 11) = some (.inl (0, 30, .inl g)))
  | 12, _ => exact (⟨_, hM.2.2 12 _ rfl⟩ : ∃ g : Nat → Int64, h (o + 1 + 12) = some (.inl (1, 30, .inr (.inl g))))
  | 13, _ => exact (⟨_, hM.2.2 13 _ rfl⟩ : ∃ g : Nat → Int32, h (o + 1 + 13) = some (.inl (0, 5, .inl g)))
  | 14, _ => exact (⟨_, hM.2.2 14 _ rfl⟩ : ∃ g : Nat → Int32, h (o + 1 + 14) = some (.inl (3, 25, .inl g)))
  | 15, _ => exact (⟨_, hM.2.2 15 _ rfl⟩ : ∃ g : Nat → Int64, h (o + 1 + 15) = some (.inl (1, 25, .inr (.inl g))))
  | 16, _ => exact (⟨_, hM.2.2 16 _ rfl⟩ : ∃ g : Nat → Int32, h (o + 1 + 16) = some (.inl (0, 5, .inl g)))
  | 17, _ => exact (⟨_, hM.2.2 17 _ rfl⟩ : ∃ g : Nat → Int32, h (o + 1 + 17) = some (.inl (0, 30, .inl g)))
  | 18, _ => exact (⟨_, hM.2.2 18 _ rfl⟩ : ∃ g : Nat → Int32, h (o + 1 + 18) = some (.inl (0, 5, .inl g)))
  | 19, _ => exact (⟨_, hM.2.2 19 _ rfl⟩ : ∃ g : Nat → Int32, h (o + 1 + 19) = some (.inl (0, 200, .inl g)))
  | 20, _ => exact (⟨_, hM.2.2 20 _ rfl⟩ : ∃ g : Nat → Int32, h (o + 1 + 20) = some (.inl (0, 200, .inl g)))
  | 21, _ => exact (⟨_, hM.2.2 21 _ rfl⟩ : ∃ g : Nat → Int32, h (o + 1 + 21) = some (.inl (3, 200, .inl g)))
  | 22, _ => exact (⟨_, hM.2.2 22 _ rfl⟩ : ∃ g : Nat → Int32, h (o + 1 + 22) = some (.inl (0, 200, .inl g)))
  | 23, _ => exact (⟨_, hM.2.2 23 _ rfl⟩ : ∃ g : Nat → Int32, h (o + 1 + 23) = some (.inl (0, 85, .inl g)))
  | 24, _ => exact (⟨_, hM.2.2 24 _ rfl⟩ : ∃ g : Nat → Int32, h (o + 1 + 24) = some (.inl (0, 85, .inl g)))
  | 25, _ => exact (⟨_, hM.2.2 25 _ rfl⟩ : ∃ g : Nat → Int32, h (o + 1 + 25) = some (.inl (0, 85, .inl g)))
  | 26, _ => exact (⟨_, hM.2.2 26 _ rfl⟩ : ∃ g : Nat → Int32, h (o + 1 + 26) = some (.inl (0, 85, .inl g)))
  | 27, _ => exact (⟨_, hM.2.2 27 _ rfl⟩ : ∃ g : Nat → Int32, h (o + 1 + 27) = some (.inl (0, 2100, .inl g)))
  | 28, _ => exact (⟨_, hM.2.2 28 _ rfl⟩ : ∃ g : Nat → Int64, h (o + 1 + 28) = some (.inl (1, 2100, .inr (.inl g))))
  | 29, _ => exact (⟨_, hM.2.2 29 _ rfl⟩ : ∃ g : Nat → Int32, h (o + 1 + 29) = some (.inl (0, 400, .inl g)))
  | 30, _ => exact (⟨_, hM.2.2 30 _ rfl⟩ : ∃ g : Nat → Int32, h (o + 1 + 30) = some (.inl (0, 400, .inl g)))
  | 31, _ => exact (⟨_, hM.2.2 31 _ rfl⟩ : ∃ g : Nat → Int32, h (o + 1 + 31) = some (.inl (0, 420, .inl g)))
  | 32, _ => exact (⟨_, hM.2.2 32 _ rfl⟩ : ∃ g : Nat → Int32, h (o + 1 + 32) = some (.inl (3, 40, .inl g)))
  | 33, _ => exact (⟨_, hM.2.2 33 _ rfl⟩ : ∃ g : Nat → Int32, h (o + 1 + 33) = some (.inl (0, 6, .inl g)))
  | 34, _ => exact (⟨_, hM.2.2 34 _ rfl⟩ : ∃ g : Nat → Int32, h (o + 1 + 34) = some (.inl (0, 6, .inl g)))
  | 35, _ => exact (⟨_, hM.2.2 35 _ rfl⟩ : ∃ g : Nat → Int32, h (o + 1 + 35) = some (.inl (3, 40, .inl g)))
  | 36, _ => exact (⟨_, hM.2.2 36 _ rfl⟩ : ∃ g : Nat → Int32, h (o + 1 + 36) = some (.inl (3, 420, .inl g)))
  | 37, _ => exact (⟨_, hM.2.2 37 _ rfl⟩ : ∃ g : Nat → Int32, h (o + 1 + 37) = some (.inl (3, 40, .inl g)))
  | 38, _ => exact (⟨_, hM.2.2 38 _ rfl⟩ : ∃ g : Nat → Int32, h (o + 1 + 38) = some (.inl (3, 40, .inl g)))
  | 39, _ => exact (⟨_, hM.2.2 39 _ rfl⟩ : ∃ g : Nat → Int32, h (o + 1 + 39) = some (.inl (3, 40, .inl g)))
  | 40, _ => exact (⟨_, hM.2.2 40 _ rfl⟩ : ∃ g : Nat → Int32, h (o + 1 + 40) = some (.inl (3, 40, .inl g)))
  | 41, _ => exact (⟨_, hM.2.2 41 _ rfl⟩ : ∃ g : Nat → Int32, h (o + 1 + 41) = some (.inl (0, 4096, .inl g)))
  | 42, _ => exact (⟨_, hM.2.2 42 _ rfl⟩ : ∃ g : Nat → Int32, h (o + 1 + 42) = some (.inl (0, 4096, .inl g)))
  | 43, _ => exact (⟨_, hM.2.2 43 _ rfl⟩ : ∃ g : Nat → Int32, h (o + 1 + 43) = some (.inl (0, 2, .inl g)))
  | 44, _ => exact (⟨_, hM.2.2 44 _ rfl⟩ : ∃ g : Nat → Int32, h (o + 1 + 44) = some (.inl (0, 2, .inl g)))
  | 45, _ => exact (⟨_, hM.2.2 45 _ rfl⟩ : ∃ g : Nat → Int32, h (o + 1 + 45) = some (.inl (0, 2048, .inl g)))
  | 46, _ => exact (⟨_, hM.2.2 46 _ rfl⟩ : ∃ g : Nat → Int32, h (o + 1 + 46) = some (.inl (0, 2048, .inl g)))
  | 47, _ => exact (⟨_, hM.2.2 47 _ rfl⟩ : ∃ g : Nat → Int32, h (o + 1 + 47) = some (.inl (0, 2048, .inl g)))
  | 48, _ => exact (⟨_, hM.2.2 48 _ rfl⟩ : ∃ g : Nat → Int32, h (o + 1 + 48) = some (.inl (3, 2048, .inl g)))
  | 49, _ => exact (⟨_, hM.2.2 49 _ rfl⟩ : ∃ g : Nat → Int32, h (o + 1 + 49) = some (.inl (0, 131072, .inl g)))
  | 50, _ => exact (⟨_, hM.2.2 50 _ rfl⟩ : ∃ g : Nat → Int32, h (o + 1 + 50) = some (.inl (0, 131072, .inl g)))
  | 51, _ => exact (⟨_, hM.2.2 51 _ rfl⟩ : ∃ g : Nat → Int32, h (o + 1 + 51) = some (.inl (0, 131072, .inl g)))
  | 52, _ => exact (⟨_, hM.2.2 52 _ rfl⟩ : ∃ g : Nat → Int32, h (o + 1 + 52) = some (.inl (0, 12, .inl g)))
  | 53, _ => exact (⟨_, hM.2.2 53 _ rfl⟩ : ∃ g : Nat → Int32, h (o + 1 + 53) = some (.inl (0, 30, .inl g)))
  | 54, _ => exact (⟨_, hM.2.2 54 _ rfl⟩ : ∃ g : Nat → Int32, h (o + 1 + 54) = some (.inl (0, 360, .inl g)))
  | 55, _ => exact (⟨_, hM.2.2 55 _ rfl⟩ : ∃ g : Nat → Int32, h (o + 1 + 55) = some (.inl (3, 2048, .inl g)))
  | 56, _ => exact (⟨_, hM.2.2 56 _ rfl⟩ : ∃ g : Nat → Int32, h (o + 1 + 56) = some (.inl (0, 2048, .inl g)))
  | 57, _ => exact (⟨_, hM.2.2 57 _ rfl⟩ : ∃ g : Nat → Int32, h (o + 1 + 57) = some (.inl (0, 40, .inl g)))
  | 58, _ => exact (⟨_, hM.2.2 58 _ rfl⟩ : ∃ g : Nat → Int32, h (o + 1 + 58) = some (.inl (0, 40, .inl g)))
  | 59, _ => exact (⟨_, hM.2.2 59 _ rfl⟩ : ∃ g : Nat → Int32, h (o + 1 + 59) = some (.inl (0, 40, .inl g)))
  | 60, _ => exact (⟨_, hM.2.2 60 _ rfl⟩ : ∃ g : Nat → Int32, h (o + 1 + 60) = some (.inl (0, 40, .inl g)))
  | 61, _ => exact (⟨_, hM.2.2 61 _ rfl⟩ : ∃ g : Nat → Int32, h (o + 1 + 61) = some (.inl (0, 31, .inl g)))
  | 62, _ => exact (⟨_, hM.2.2 62 _ rfl⟩ : ∃ g : Nat → Int32, h (o + 1 + 62) = some (.inl (0, 1023, .inl g)))
  | n + 63, hn => exact absurd hn (by omega)
theorem XD_0 {h : AH} {o w : Nat} {g3 g5 : Nat → Int32} (hF : FX h o w g3 g5) : XD h (w + 1) D0 := by
  obtain ⟨xo, x0, x1, x2, x3, x4, x5, x6, x7, x8, x9, x10, x11, x12, x13, x14, x15, x16, x17, x18, x19, x20, x21, x22, x23, x24, x25, x26, x27, x28, x29, x30, x31, x32, x33, x34, x35, x36, x37, x38, x39, x40, x41, x42, x43, x44, x45, x46, x47, x48, x49, x50, x51, x52, x53, x54, x55, x56, x57, x58, x59, x60, x61, x62, x63, x64, x65, x66, x67, x68, x69, x70, x71, x72⟩ := id hF
  have n0 : ∀ c, (if cirB (dR D0) (dL D0) c then (dsg D0 c).length else 0) = 0 := fun c => by
    cases cirB (dR D0) (dL D0) c <;> rfl
  refine ⟨0, fun _ => 0, fun _ => 0, fun _ => 0, fun _ => 0, fun _ => 0, fun _ => 0, fun _ => 0, fun _ => 0, fun _ => 0, fun _ => 0, fun _ => 0, fun _ => 0, fun _ => 0, fun _ => 0, fun _ => 0, fun _ => 0, by rw [flL_0]; exact x1, x7, x2, x3, x4, x5, x6, x11, x12, x13, x14, x15, x17, x18, x19, x20, by rw [show dI D0 = 0 from rfl]; exact x28, by rw [show dI D0 = 0 from rfl]; exact x29, fun k hk => absurd hk (Nat.not_lt_zero k), fun k hk => absurd hk (Nat.not_lt_zero k), fun c z hc hz => absurd ((cirB_0 c hc).symm.trans hz) Bool.false_ne_true, fun on up k _ _ _ => ?_, fun on up _ _ => ?_, fun _ _ => rfl, fun i hi => ?_, it_0, fun c hc => ⟨0, rfl, ?_, ?_, fun hz => absurd ((cirB_0 c hc).symm.trans hz) Bool.false_ne_true⟩⟩
  · rw [show dK D0 = 0 from rfl, decide_eq_false (Nat.not_lt_zero k), bl_or, bl_0]
    rfl
  · have e : bsum (fun c => cirB (dR D0) (dL D0) c && dCT D0 c (fun k => decide (k < dK D0) && tgW (dof D0) (dnt D0) (dtr D0) on up k)) 11 = 0 := by
      show bsum (fun c => cirB 0 0 c && false) 11 = 0
      decide
    rw [e]
    rfl
  · rw [flL_0] at hi
    exact absurd hi (Nat.not_lt_zero i)
  · rw [n0]; rfl
  · rw [n0]; exact Nat.zero_le _
theorem HT_0 {h : AH} {o w : Nat} {g3 g5 : Nat → Int32} (hF : FX h o w g3 g5) (e3 : ∀ i, i < 2048 → g3 i = (-1)) : HTx h (w + 43) (w + 1) (w + 1) (D0, D0, 0, none, none) 0 := by
  obtain ⟨xo, x0, x1, x2, x3, x4, x5, x6, x7, x8, x9, x10, x11, x12, x13, x14, x15, x16, x17, x18, x19, x20, x21, x22, x23, x24, x25, x26, x27, x28, x29, x30, x31, x32, x33, x34, x35, x36, x37, x38, x39, x40, x41, x42, x43, x44, x45, x46, x47, x48, x49, x50, x51, x52, x53, x54, x55, x56, x57, x58, x59, x60, x61, x62, x63, x64, x65, x66, x67, x68, x69, x70, x71, x72⟩ := id hF
  refine ⟨_, g3, _, _, _, x43, ⟨⟨0, 0, 0, ⟨rfl, rfl, rfl, rfl, rfl, rfl, rfl, rfl⟩, fun k => bl_0 k, fun k => bl_0 k, fun k => bl_0 k⟩, rfl, rfl, rfl, rfl, rfl, rfl, rfl, rfl, rfl, sm_0, sm_0, by decide⟩, x44, x45, x46, x47, fun on hon v hv => Or.inl (e3 _ ?_)⟩
  have h1 : on < 2 ^ 0 := hon
  have h2 : v < 2 ^ 0 := hv
  omega
theorem HT_1 {h : AH} {o w : Nat} {g3 g5 : Nat → Int32} (hF : FX h o w g3 g5) (e5 : ∀ i, i < 2048 → g5 i = (-1)) : HTx h (w + 53) (w + 1) (w + 1) (D0, D0, 0, none, none) 0 := by
  obtain ⟨xo, x0, x1, x2, x3, x4, x5, x6, x7, x8, x9, x10, x11, x12, x13, x14, x15, x16, x17, x18, x19, x20, x21, x22, x23, x24, x25, x26, x27, x28, x29, x30, x31, x32, x33, x34, x35, x36, x37, x38, x39, x40, x41, x42, x43, x44, x45, x46, x47, x48, x49, x50, x51, x52, x53, x54, x55, x56, x57, x58, x59, x60, x61, x62, x63, x64, x65, x66, x67, x68, x69, x70, x71, x72⟩ := id hF
  refine ⟨_, g5, _, _, _, x53, ⟨⟨0, 0, 0, ⟨rfl, rfl, rfl, rfl, rfl, rfl, rfl, rfl⟩, fun k => bl_0 k, fun k => bl_0 k, fun k => bl_0 k⟩, rfl, rfl, rfl, rfl, rfl, rfl, rfl, rfl, rfl, sm_0, sm_0, by decide⟩, x54, x55, x56, x57, fun on hon v hv => Or.inl (e5 _ ?_)⟩
  have h1 : on < 2 ^ 0 := hon
  have h2 : v < 2 ^ 0 := hv
  omega
set_option maxRecDepth 8000 in
theorem WX_0 {h : AH} {nx o w : Nat} {g3 g5 : Nat → Int32} (hF : FX h o w g3 g5) (e3 : ∀ i, i < 2048 → g3 i = (-1)) (e5 : ∀ i, i < 2048 → g5 i = (-1)) (how : o < w) (hnx : w + 137 ≤ nx) : WX h nx o w 0 (-1) 0 (-1) (fun _ => 0) (fun _ => D0) 0 256 (fun _ => 0) [] hw0 (fun _ _ => false) (fun _ => -1) := by
  have xd := XD_0 hF
  have t0 := HT_0 hF e3
  have t1 := HT_1 hF e5
  obtain ⟨fs, fb, fi, fw, fl, fv, ft, df, g, hN⟩ := hF.nd
  obtain ⟨_, _, _, _, _, _, _, _, _, _, b1, b2, b3, b4, b5, b6, b7, b8, b9, b10, b11, b12, b13, b14, b15, b16, b17, b18, b19, b20⟩ := hN
  obtain ⟨xo, x0, x1, x2, x3, x4, x5, x6, x7, x8, x9, x10, x11, x12, x13, x14, x15, x16, x17, x18, x19, x20, x21, x22, x23, x24, x25, x26, x27, x28, x29, x30, x31, x32, x33, x34, x35, x36, x37, x38, x39, x40, x41, x42, x43, x44, x45, x46, x47, x48, x49, x50, x51, x52, x53, x54, x55, x56, x57, x58, x59, x60, x61, x62, x63, x64, x65, x66, x67, x68, x69, x70, x71, x72⟩ := id hF
  refine ⟨⟨xo, ⟨_, x30, fun i hi => absurd hi (Nat.not_lt_zero i)⟩, Nat.zero_le _, xd, fun i hi => absurd hi (Nat.not_lt_zero i), fun i j _ hj => absurd hj (Nat.not_lt_zero j), how⟩, ⟨_, _, _, 0, t0, WK_0, Or.inl ⟨rfl, rfl⟩, Or.inl ⟨rfl, rfl⟩, ?_, Nat.le_refl _⟩, ⟨_, _, _, 0, t1, WK_0, Or.inl ⟨rfl, rfl⟩, Or.inl ⟨rfl, rfl⟩, Nat.le_refl _⟩, ⟨w + 58, 0, _, _, x52, x58, x59, ⟨Or.inl rfl, by omega, hnx⟩, Or.inl rfl, fun i hi => absurd hi (Nat.not_lt_zero i), fun i hi => absurd hi (Nat.not_lt_zero i)⟩, ⟨_, _, _, _, _, x64, x65, x66, x67, x68, x69, fun i hi => absurd hi (Nat.not_lt_zero i)⟩, ⟨w + 1, ⟨0, _, _, x70, x71, x72, fun k _ => bl_0 k, fun r _ => ⟨rfl, rfl⟩⟩, fun t ht => absurd ht (Nat.not_lt_zero t)⟩, ⟨none, none, 0, 0, _, _, _, x60, x61, x62, x63, Or.inl ⟨rfl, rfl⟩⟩, ⟨⟨fun _ => 0, x31⟩, ⟨w + 34, 0, 0, 0, 0, 0, x32⟩, ⟨kwF, x33, kw_p⟩, ⟨fun _ => 0, fun _ => 0, fun _ => 0, fun _ => 0, _, _, _, _, _, x35, x36, x37, x38, x39, fun i hi => absurd hi (Nat.not_lt_zero i)⟩, ⟨fun _ => 0, fun _ => 0, _, _, _, x40, x41, x42, fun i hi => absurd hi (Nat.not_lt_zero i)⟩⟩, ⟨_, x0, fun i hi => absurd hi (Nat.not_lt_zero i)⟩, fun i hi => absurd hi (Nat.not_lt_zero i), fun _ => ⟨fb, fi, fw, fl, fv, ft, df, g, -1, b1, b2, b3, b4, b5, b6, b7, b8, b9, b10, b11, b12, b13, b14, b15, b16, b17, b18, b19, b20⟩⟩
  exact ⟨-1, (0, fun _ => 0, fun _ => (0, 0), 0), 0, 0, _, ⟨_, _, _, x48, rfl, rfl, rfl, rfl, rfl, rfl, rfl, rfl, rfl, rfl, x49, x50, x51⟩, Or.inl rfl, fun z => absurd z (by decide)⟩
theorem WM_0 {h h0 : AH} {o : Nat} (hM : Mk h0 (o + 1) o 12 h (fsM (o + 1)) arM) : WM h o (fsM (o + 1)) 0 (-1) 0 (-1) (fun _ => D0) 0 (fun _ => 0) [] hw0 :=
  ⟨MA_0 hM.2.1, SHm_0 hM, ⟨kmF, hM.2.2 6 _ rfl, km_p⟩, ⟨rfl, Nat.zero_le _, fun i hi => absurd hi (Nat.not_lt_zero i)⟩, fun i hi => absurd hi (Nat.not_lt_zero i), ⟨rfl, rfl, rfl⟩, ⟨0, rfl⟩, ⟨0, rfl⟩, ⟨_, hM.2.2 0 _ rfl, fun i hi => absurd hi (Nat.not_lt_zero i)⟩, ⟨_, hM.2.2 8 _ rfl, fun k _ => ⟨false, rfl⟩⟩, ⟨0, _, Nat.le_refl 0, rfl, hM.2.2 51 _ rfl, fun y _ => ⟨0, Nat.le_refl 0, rfl⟩⟩, ⟨_, _, _, _, hM.2.2 57 _ rfl, hM.2.2 58 _ rfl, hM.2.2 59 _ rfl, hM.2.2 60 _ rfl, rfl, fun i hi => absurd hi (Nat.not_lt_zero i)⟩, fun i hi => absurd hi (Nat.not_lt_zero i), fun _ => ⟨rfl, 0, 0, 0, rfl, rfl, rfl, Or.inl rfl⟩⟩
theorem WLD_0 {h h0 : AH} {nx o w om : Nat} {g3 g5 : Nat → Int32} (hF : FX h o w g3 g5) (e3 : ∀ i, i < 2048 → g3 i = (-1)) (e5 : ∀ i, i < 2048 → g5 i = (-1)) (how : o < w) (hmo : w + 73 = om) (hnx : om + 64 ≤ nx) (hM : Mk h0 (om + 1) om 12 h (fsM (om + 1)) arM) : WLD h nx o w om 0 138 454361 := by
  subst hmo
  exact ⟨0, 0, 0, 0, 256, -1, -1, fun _ => 0, fun _ => D0, fun _ => 0, [], hw0, fun _ _ => false, fun _ => -1, fsM (w + 73 + 1), ⟨rfl, how, Nat.zero_le _, fun _ => Nat.succ_pos 255, ⟨Nat.zero_le _, fun i hi => absurd hi (Nat.not_lt_zero i)⟩, Or.inl ⟨rfl, rfl, rfl⟩⟩, WX_0 hF e3 e5 how (by omega), WM_0 hM, Nat.zero_le _, Nat.zero_le _, Nat.le_add_right _ _, Nat.le_add_right _ _⟩
