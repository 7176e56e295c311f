/-! the model reads: an input is told, by the machine that reads -/
theorem mst_tie {kd : Nat → Nat} (hkd : ∀ i, kd i < 19) {N j K f s2 : Nat} (hZ : zEnd kd N) (ha : ∀ i, i < j → zok kd i) (hn : ∀ k, k ≠ K → zB (zS (zz kd j)) (zD (zz kd j)) k = none) (hs : zB (zS (zz kd j)) (zD (zz kd j)) K = some s2) (h0 : zS (zz kd j) ≠ 0) (h : mstF kd j K f) : N = j ∧ zFt kd N = f := by
  rcases h with ⟨a, rfl⟩ | ⟨a, b, rfl⟩
  · exact stop_1 hkd hZ ha (hn _ a) (fun _ => h0)
  · exact stop_2 hkd hZ ha (by rw [a]; exact hs) (Or.inl (by omega))
/-- tokens of a statement's head -/
theorem hd_seg {kd : Nat → Nat} (hkd : ∀ i, kd i < 19) {t t2 : Nat} (ha : ∀ j, j < t2 → zok kd j) (htt : t ≤ t2) (hh : ∀ i, t ≤ i → i < t2 → zS (zz kd i) < 10) : cG kd t2 = cG kd t ∧ gCn kd t2 = gCn kd t ∧ wN kd t2 = wN kd t ∧ zK (zz kd t2) = zK (zz kd t) := by
  obtain ⟨m, rfl⟩ := Nat.exists_eq_add_of_le htt
  induction m with
  | zero => exact ⟨rfl, rfl, rfl, rfl⟩
  | succ m ih =>
    obtain ⟨i1, i2, i3, i4⟩ := ih (fun j hj => ha j (by omega)) (by omega) (fun i h1 h2 => hh i h1 (by omega))
    have hs := hh (t + m) (by omega) (by omega)
    obtain ⟨e1, e2, e3, _⟩ := hd_s hs
    obtain ⟨s, _, _, e, _⟩ := zst hkd ha (show t + m < t + (m + 1) by omega)
    exact ⟨e1.trans i1, e2.trans i2, e3.trans i3, (zK_h hs e).trans i4⟩
theorem jump_k : ∀ k ∈ [18, 19, 21, 22, 27, 29, 30], 18 ≤ k ∧ k < 32 := by decide
theorem MRt.jump {kd : Nat → Nat} (hkd : ∀ i, kd i < 19) {o d t t2 wo w2 wg : Nat} {h0 h h1 : AH} {fs0 fs fs1 : List Value} {wp p2 : Int32} (M : MRt kd o d h0 fs0 h fs t wo wp) (ha : ∀ j, j < t2 → zok kd j) (htt : t ≤ t2) (hh : ∀ i, t ≤ i → i < t2 → zS (zz kd i) < 10) (hP : PRs h1 o fs1 ((t2, 0, 420 * d + (cG kd t).2.length, 420 * d + gCn kd t), (wN kd t, wg, w2, p2))) (hF : FRM o d h0 fs0 h1 fs1) (hs : ∀ j, j ∈ [18, 19, 21, 22, 27, 29, 30] → h1 (o + 1 + j) = h (o + 1 + j)) : MRt kd o d h0 fs0 h1 fs1 t2 w2 p2 := by
  obtain ⟨_, m2, m3, m4⟩ := M
  obtain ⟨e1, e2, e3, e4⟩ := hd_seg hkd ha htt hh
  refine ⟨⟨wg, by rw [e1, e2, e3]; exact hP⟩, hF, (m3.ag (fun j hj => hs j (by rcases hj with e | e | e | e | e | e <;> rw [e] <;> decide))).stay e4 (no_nm hkd ha e3 e4), by rw [e1]; exact m4.ag (hs 27 (by decide))⟩
/-- the page ahead of a statement at token t -/
def BSt (u : Nat → Nat) (n o d N : Nat) (h0 : AH) (fs0 : List Value) (h : AH) (fs : List Value) (t : Nat) : Prop := (∃ wo wp, MRt (kdN u n) o d h0 fs0 h fs t wo wp ∧ WRs (kdN u n) (vaN u n) (plN u n) t wo wp) ∧ HI h0 h o d (kdN u n) (vaN u n) t ∧ HW h o d (kdN u n) (vaN u n) t ∧ HL h o d (kdN u n) (vaN u n) t ∧ HV h o d (kdN u n) (vaN u n) t ∧ CTb h o d (kdN u n) (vaN u n) N t
/-- the names that the page holds are those told -/
theorem tw_any {kd : Nat → Nat} {vl : Nat → Int64} {t : Nat} {nmI nmR nmL : Nat → Int64} (hT : TXT kd t) (n1 : ∀ i, i < t → zS (zz kd i) = 1 → nmI (zI (zz kd i)) = vl i) (n2 : ∀ i, i < t → zS (zz kd i) = 3 → nmR (zR (zz kd i)) = vl i) (n3 : ∀ i, i < t → zS (zz kd i) = 7 → nmL (zL (zz kd i)) = vl i) (x : Int64) : twN nmI nmR nmL (zI (zz kd t)) (zR (zz kd t)) (zL (zz kd t)) x ↔ (toL kd t).any (fun i => decide (vl i = x)) = true := by
  obtain ⟨_, _, _, w4, w5, w6, _⟩ := hT.w (Nat.le_refl t)
  have ex : ∀ {i : Nat}, i < t → (zS (zz kd i) = 1 ∨ zS (zz kd i) = 3 ∨ zS (zz kd i) = 7) → vl i = x → (toL kd t).any (fun i => decide (vl i = x)) = true := fun {i} hi hs e => List.any_eq_true.mpr ⟨i, told_m hi hs, decide_eq_true e⟩
  refine ⟨fun h => ?_, fun h => ?_⟩
  · rcases h with h | h | h
    · rcases fdN_c (nm := nmI) (x := x) (zI (zz kd t)) (by omega) with ⟨a, _⟩ | ⟨k, k1, k2, _⟩
      · exact absurd a h
      · obtain ⟨i, i1, i2, i3, i4, _⟩ := exI hT k1
        exact ex i1 (Or.inl i2) (by rw [← n1 i i1 i2, i4]; exact k2)
    · rcases fdN_c (nm := nmR) (x := x) (zR (zz kd t)) (by omega) with ⟨a, _⟩ | ⟨k, k1, k2, _⟩
      · exact absurd a h
      · obtain ⟨i, i1, i2, i3, i4, _⟩ := exR hT k1
        exact ex i1 (Or.inr (Or.inl i2)) (by rw [← n2 i i1 i2, i4]; exact k2)
    · rcases fdN_c (nm := nmL) (x := x) (zL (zz kd t)) (by omega) with ⟨a, _⟩ | ⟨k, k1, k2, _⟩
      · exact absurd a h
      · obtain ⟨i, i1, i2, i3, i4, _⟩ := exL hT k1
        exact ex i1 (Or.inr (Or.inr i2)) (by rw [← n3 i i1 i2, i4]; exact k2)
  · obtain ⟨i, hi, e⟩ := List.any_eq_true.mp h
    have e := of_decide_eq_true e
    obtain ⟨hit, h3⟩ := told_c hT hi
    have nz : ∀ k, k < 100 → ¬ nI k = -1 := by decide
    rcases h3 with ⟨a, _, _, b⟩ | ⟨a, _, _, b⟩ | ⟨a, _, _, b⟩
    · refine Or.inl (fun z => ?_)
      rcases fdN_c (nm := nmI) (x := x) (zI (zz kd t)) (by omega) with ⟨_, q⟩ | ⟨k, k1, _, k3, _⟩
      · exact q _ b ((n1 i hit a).trans e)
      · exact nz k (by omega) (k3.symm.trans z)
    · refine Or.inr (Or.inl (fun z => ?_))
      rcases fdN_c (nm := nmR) (x := x) (zR (zz kd t)) (by omega) with ⟨_, q⟩ | ⟨k, k1, _, k3, _⟩
      · exact q _ b ((n2 i hit a).trans e)
      · exact nz k (by omega) (k3.symm.trans z)
    · refine Or.inr (Or.inr (fun z => ?_))
      rcases fdN_c (nm := nmL) (x := x) (zL (zz kd t)) (by omega) with ⟨_, q⟩ | ⟨k, k1, _, k3, _⟩
      · exact q _ b ((n3 i hit a).trans e)
      · exact nz k (by omega) (k3.symm.trans z)
theorem names_of {h0 h : AH} {fs : List Value} {o d t : Nat} {kd : Nat → Nat} {vl : Nat → Int64} (hT : TXT kd t) (f20 : fs[20]? = some (.int (nI d))) (hd : d < 5) (h1 : HI h0 h o d kd vl t) (h2 : HW h o d kd vl t) (h3 : HL h o d kd vl t) : ∃ nmI nmR nmL : Nat → Int64, NMp h o fs d (zI (zz kd t)) (zR (zz kd t)) (zL (zz kd t)) nmI nmR nmL ∧ (∀ i, i < t → zS (zz kd i) = 1 → nmI (zI (zz kd i)) = vl i) ∧ (∀ i, i < t → zS (zz kd i) = 3 → nmR (zR (zz kd i)) = vl i) ∧ (∀ i, i < t → zS (zz kd i) = 7 → nmL (zL (zz kd i)) = vl i) := by
  obtain ⟨g7, g8, k8, g9, a1, a2, a3, a4, a5, a6, a7⟩ := h1
  obtain ⟨g10, g11, g12, b1, b2, b3, b4, b5, _⟩ := h2
  obtain ⟨g13, g14, g15, c1, c2, c3, c4, c5⟩ := h3
  obtain ⟨_, _, _, w4, w5, w6, _⟩ := hT.w (Nat.le_refl t)
  exact ⟨fun k => g9 (5 * d + k), fun k => g12 (6 * d + k), fun k => g15 (5 * d + k), ⟨f20, hd, ⟨g7, g9, a1, a3, a5, w4, fun _ _ => rfl⟩, ⟨g10, g12, b1, b3, b4, w5, fun _ _ => rfl⟩, g13, g15, c1, c3, c4, w6, fun _ _ => rfl⟩, fun i hi hs => (a6 i hi hs).2, b5, fun i hi hs => (c5 i hi hs).2⟩
theorem hC_of {u : Nat → Nat} {n t wo : Nat} {wp : Int32} (hu : ∀ i, u i < 256) (W : WRs (kdN u n) (vaN u n) (plN u n) t wo wp) (ha : ∀ j, j < t → zok (kdN u n) j) (hn : n ≤ 2000) (k0 : kdN u n t ≠ 0) : wo ≤ 5 ∧ (wo = 0 ∨ ∃ q, wp = nI q ∧ q ≤ 2000 ∧ q < plN u n (t + 1)) := by
  obtain ⟨a, b⟩ := W.c hu (Nat.le_refl t) ha hn
  have h1 := plN_s (u := u) (n := n) (i := t) k0
  refine ⟨a, b.imp id (fun ⟨q, x1, x2, x3⟩ => ⟨q, x1, x2, ?_⟩)⟩
  exact Nat.lt_trans x3 h1
theorem toL_0 {kd : Nat → Nat} {t : Nat} (h : zN (zS (zz kd t)) = false) : toL kd (t + 1) = toL kd t := by
  rw [toL_s, h, if_neg (by decide)]
/-- a token that tells a name, told already or not -/
theorem eX_n {kd : Nat → Nat} {vl : Nat → Int64} {i : Nat} (h : zN (zS (zz kd i)) = true) (hk : kd i = 2) : eXz kd vl i = if (toL kd i).any (fun t => decide (vl t = vl i)) = true then 3 else 0 := by
  unfold eXz
  rw [if_neg (fun z => by rw [z] at h; exact absurd h (by decide)), if_neg (fun z => z hk), if_pos h]
set_option maxHeartbeats 8000000 in
set_option maxHeartbeats 8000000 in
theorem m_tellInputZ {l : Launch} {G : GG} {h : AH} {nx : Nat} {Post : Option Value → AH → Nat → Prop} {o d n m N t : Nat} {u : Nat → Nat} {h0 : AH} {fs fs0 : List Value} (hX : XC G ∧ TX l G) (hS : BSt u n o d N h0 fs0 h fs t) (hT : tokM h o u n m) (hu : ∀ i, u i < 256) (ht : t < m) (hm : m ≤ 401) (hn : n ≤ 2000) (hE : tkEnd u n m) (hZ : zEnd (kdN u n) N) (hX0 : TXT (kdN u n) t) (hk : kdN u n t = 4 ∨ kdN u n t = 5) (h5 : zI (zz (kdN u n) t) < 5) (f20 : fs0[20]? = some (.int (nI d))) (hd : d < 4) (hB : ∀ (h1 : AH) (fs1 : List Value), PFl h1 o fs1 (zFt (kdN u n) N) (plN u n N) → FRM o d h0 fs0 h1 fs1 → Post none h1 nx) (hP : ∀ (t2 : Nat) (h1 : AH) (fs1 : List Value), t < t2 → t2 < m → TXT (kdN u n) t2 → BSt u n o d N h0 fs0 h1 fs1 t2 → tokM h1 o u n m → Post none h1 nx) : Runs l G i_X12_tellInput 0 0 [.ref o] h nx Post := by
  have hkd := kdN_lt hu n
  obtain ⟨⟨wo, wp, M, W⟩, s1, s2, s3, s4, s5⟩ := hS
  obtain ⟨⟨wg, P⟩, F, K0, C0⟩ := id M
  have e20 : fs[20]? = some (.int (nI d)) := (F.1 20 (by omega)).trans f20
  obtain ⟨nmI, nmR, nmL, NM, n1, n2, n3⟩ := names_of hX0 e20 (by omega) s1 s2 s3
  have TW := tw_any (vl := vaN u n) hX0 n1 n2 n3
  obtain ⟨g7, g8, k8, g9, a1, a2, a3, a4, a5, a6, a7⟩ := id s1
  have z0 : zS (zz (kdN u n) t) = 0 := hX0.2.2
  have ha := hX0.2.1
  have b0 : zB (zS (zz (kdN u n) t)) (zD (zz (kdN u n) t)) (kdN u n t) = some 1 := by
    rw [z0]
    rcases hk with e | e <;> rw [e] <;> rfl
  have O0 : zO (zz (kdN u n) t) (kdN u n t) = false := by
    have : decide (5 ≤ zI (zz (kdN u n) t)) = false := decide_eq_false (by omega)
    rcases hk with e | e <;> rw [e] <;> exact this
  have st1 : t < 400 → (∀ i, i < t + 1 → zok (kdN u n) i) ∧ zz (kdN u n) (t + 1) = zA (zz (kdN u n) t) (kdN u n t) 1 := fun h4 => by
    obtain ⟨_, _, x, y⟩ := zok_k hZ hkd ha h4 b0 O0
    exact ⟨x, y⟩
  have z1 : t < 400 → zS (zz (kdN u n) (t + 1)) = 1 ∧ zT (zz (kdN u n) (t + 1)) = kdN u n t ∧ zI (zz (kdN u n) (t + 1)) = zI (zz (kdN u n) t) := fun h4 => by
    rw [(st1 h4).2]
    exact ⟨zA_S _ _ _, by rw [zA_T, if_pos z0], by rw [zA_I, if_neg (by omega)]⟩
  have st2 : t + 1 < 400 → kdN u n (t + 1) = 2 → (∀ i, i < t + 2 → zok (kdN u n) i) ∧ zz (kdN u n) (t + 2) = zA (zz (kdN u n) (t + 1)) (kdN u n (t + 1)) 2 := fun h4 h2 => by
    obtain ⟨_, _, x, y⟩ := zok_k (s := 2) hZ hkd (st1 (by omega)).1 h4 (by rw [(z1 (by omega)).1, h2]; rfl) (by
      rw [h2]
      show (zC (zz (kdN u n) (t + 1)) && decide (40 ≤ zK (zz (kdN u n) (t + 1)))) = false
      rw [(hd_s (by rw [(z1 (by omega)).1]; decide)).2.2.2.2, Bool.false_and])
    exact ⟨x, y⟩
  have z2 : t + 1 < 400 → kdN u n (t + 1) = 2 → zS (zz (kdN u n) (t + 2)) = 2 := fun h4 h2 => by
    rw [(st2 h4 h2).2]
    exact zA_S _ _ _
  have flt : ∀ {j f : Nat}, inF (kdN u n) t j f → N = j ∧ zFt (kdN u n) N = f := by
    intro j f hh
    rcases hh with ⟨x1, rfl, rfl⟩ | ⟨x1, rfl, x3⟩ | ⟨x1, x2, rfl, x3⟩
    · exact stop_2 hkd hZ ha b0 (Or.inl (by omega))
    · refine mst_tie hkd hZ (st1 x1).1 (s2 := 2) (fun k hk => ?_) ?_ (by rw [(z1 x1).1]; decide) x3
      · rw [(z1 x1).1]; exact if_neg hk
      · rw [(z1 x1).1]; rfl
    · refine mst_tie hkd hZ (st2 x1 x2).1 (s2 := 0) (fun k hk => ?_) ?_ (by rw [z2 x1 x2]; decide) x3
      · rw [z2 x1 x2]; exact if_neg hk
      · rw [z2 x1 x2]; rfl
  have k0 : kdN u n t ≠ 0 := by omega
  refine m_tellInput hX P hT hu ht hm hn hE k0 NM h5 a1 a5 a2 a3 (hC_of hu W ha hn k0).1 (hC_of hu W ha hn k0).2 (fun j f h1 fs1 x1 x2 x3 x4 x5 => ?_) (fun x1 x2 x3 h1 fs1 wo' wp' x4 x5 x6 x7 x8 x9 x10 => ?_)
  · obtain ⟨y1, y2⟩ := flt x1
    exact hB h1 fs1 (by rw [y2, y1]; exact x2) (F.up [8] x3 (fun x v1 v2 => x4 x v1 (v2 8 (by decide))) ⟨⟨by decide, by decide, fun _ => rowZ.u a2 x5 (show 5 * d ≤ _ by omega)⟩, True.intro⟩ (fun _ => B8.u a2 x5))
  · obtain ⟨v1, v2, v3⟩ := z1 (by omega)
    obtain ⟨q1, q2⟩ := st2 (by omega) x1
    have q3 := z2 (by omega) x1
    obtain ⟨_, _, r1, r2⟩ := zok_k (s := 0) hZ hkd q1 x3 (by rw [q3, x2]; rfl) (by rw [x2]; rfl)
    have q4 : zS (zz (kdN u n) (t + 3)) = 0 := by
      rw [show t + 3 = t + 2 + 1 from rfl, r2]
      exact zA_S _ _ _
    have T3 : TXT (kdN u n) (t + 3) := ⟨hkd, r1, q4⟩
    have seg : ∀ i, t ≤ i → i < t + 3 → zS (zz (kdN u n) i) < 10 ∧ kdN u n i ≠ 13 ∧ kdN u n i ≠ 11 := fun i i1 i2 => by
      have : i = t ∨ i = t + 1 ∨ i = t + 2 := by omega
      rcases this with e | e | e <;> rw [e] <;> omega
    have cnt : zI (zz (kdN u n) (t + 3)) = zI (zz (kdN u n) t) + 1 ∧ zR (zz (kdN u n) (t + 3)) = zR (zz (kdN u n) t) ∧ zL (zz (kdN u n) (t + 3)) = zL (zz (kdN u n) t) ∧ zV (zz (kdN u n) (t + 3)) = zV (zz (kdN u n) t) := by
      rw [show t + 3 = t + 2 + 1 from rfl, r2, zA_I, zA_R, zA_L, zA_V, if_neg (by omega), if_neg (by omega), if_neg (by omega), if_neg (by omega), q2, zA_I, zA_R, zA_L, zA_V, if_pos ⟨v1, x1⟩, if_neg (by omega), if_neg (by omega), if_neg (by omega), (st1 (by omega)).2, zA_I, zA_R, zA_L, zA_V, if_neg (by omega), if_neg (by omega), if_neg (by omega), if_neg (by omega)]
      exact ⟨rfl, rfl, rfl, rfl⟩
    have fr : ∀ x, x ≠ o → (∀ j ∈ [7, 8, 9], x ≠ o + 1 + j) → h1 x = h x := fun x w1 w2 => x7 x w1 (w2 7 (by decide)) (w2 8 (by decide)) (w2 9 (by decide))
    have F2 : FRM o d h0 fs0 h1 fs1 := F.up [7, 8, 9] x6 fr ⟨⟨by decide, by decide, fun _ => rowZ.u a1 x8 (show 1 * d ≤ d by omega)⟩, ⟨by decide, by decide, fun _ => rowZ.u a2 x9 (show 5 * d ≤ _ by omega)⟩, ⟨by decide, by decide, fun _ => rowZ.l a3 x10 (fun x hx => pk_uLn (by have hx : x < 5 * d := hx; omega))⟩, True.intro⟩ (fun _ => B8.u a2 x9)
    have rs : ∀ j, 10 ≤ j → j < 63 → h1 (o + 1 + j) = h (o + 1 + j) := fun j w1 w2 => x7 _ (by omega) (by omega) (by omega) (by omega)
    have M3 : MRt (kdN u n) o d h0 fs0 h1 fs1 (t + 3) wo' wp' := M.jump hkd r1 (by omega) (fun i i1 i2 => (seg i i1 i2).1) x5 F2 (fun j hj => rs j (by have := jump_k j hj; omega) (by have := jump_k j hj; omega))
    have zn1 : zN (zS (zz (kdN u n) (t + 1))) = true := by rw [v1]; rfl
    have eX0 : eXz (kdN u n) (vaN u n) t = 0 := eX_0 (by omega) (Or.inl (by omega))
    have eX2 : eXz (kdN u n) (vaN u n) (t + 2) = 0 := eX_0 (by omega) (Or.inl (by omega))
    have eX1 := eX_n (vl := vaN u n) zn1 x1
    rw [toL_0 (show zN (zS (zz (kdN u n) t)) = false from by rw [z0]; rfl)] at eX1
    have W3 : WRs (kdN u n) (vaN u n) (plN u n) (t + 3) wo' wp' := by
      rcases x4 with ⟨y1, y2⟩ | ⟨y1, y2⟩
      · rw [if_pos ((TW _).mp y1)] at eX1
        have w := ((W.s0 eX0).s1 eX1 (by decide)).s0 eX2
        rw [← y2] at w
        exact w
      · rw [if_neg (fun z => y1 ((TW _).mpr z))] at eX1
        have w := ((W.s0 eX0).s0 eX1).s0 eX2
        cases y2
        exact w
    refine hP (t + 3) h1 fs1 (by omega) (hE.s (hE.s (hE.s ht k0 (by omega)) (by omega) (by omega)) (by omega) x3) T3 ⟨⟨wo', wp', M3, W3⟩, ?_, ?_, ?_, ?_, ?_⟩ (hT.ag (fun x w1 w2 => x7 x (by omega) (by omega) (by omega) (by omega)))
    · exact s1.more T3 cnt.1 h5 (show t + 1 < t + 3 by omega) v1 v3 a1 a2 a3 x8 (by rw [v2]; exact x9) x10
    · exact s2.stay T3 z0 cnt.2.1 (by omega) (fun j w1 w2 => rs j (by omega) (by omega))
    · exact s3.stay T3 cnt.2.2.1 (fun j w1 w2 => rs j (by omega) (by omega))
    · exact s4.stay T3 z0 cnt.2.2.2 (fun j w1 w2 => rs j (by omega) (by omega))
    · exact (s5.ag (fun j w1 w2 _ => rs j (by omega) (by omega))).stay (fun i w1 w2 => ⟨(seg i w1 w2).2.1, (seg i w1 w2).2.2, (seg i w1 w2).1⟩)
