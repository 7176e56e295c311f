/-! the model reads: a circuit behind a fault; a circuit and the ; behind it -/
theorem PFl.row {h : AH} {o j f q : Nat} {fs : List Value} {e : AE} (P : PFl h o fs f q) (hr : rowS (some e) (tyL.getD j (0, 0))) : PFl (uph h (o + 1 + j) e) o fs f q := ⟨P.1.keep (uph_ne (by omega)), P.2.1.row1 hr, P.2.2⟩
set_option maxHeartbeats 8000000 in
theorem m_circuitF {l : Launch} {G : GG} {h : AH} {nx : Nat} {Post : Option Value → AH → Nat → Prop} {o d c f q : Nat} {ow cx : Int32} {h0 : AH} {fs fs0 : List Value} (hX : XC G ∧ TX l G) (hF : PFl h o fs f q) (hR : FRM o d h0 fs0 h fs) (hcx : cx = nI c) (f20 : fs[20]? = some (.int (nI d))) (hd : d < 4) (hc : c < 17) (hP : ∀ (h1 : AH) (fs1 : List Value), PFl h1 o fs1 f q → FRM o d h0 fs0 h1 fs1 → pfF fs fs1 → (∀ x, x ≠ o → x ≠ o + 1 + 23 → x ≠ o + 1 + 25 → h1 x = h x) → Post none h1 nx) : Runs l G i_X12_circuit 0 0 [.ref o, .int cx, .int ow] h nx Post := by
  subst hcx
  have ei : (17 : Int32) * nI d + nI c = nI (17 * d + c) := by rw [show (17 : Int32) = nI 17 from rfl, nI_mul, nI_add]
  have hc85 : 17 * d + c < 85 := by omega
  obtain ⟨hM, hS, c13, c14, f0, f5, t, ht, c11, ⟨x12, c12⟩, ⟨x49, c49⟩, ⟨x41, c41⟩, ⟨x43, c43⟩, _⟩ := id hF
  obtain ⟨g23, e23⟩ := hS.i 23 (by decide) (by decide) rfl
  obtain ⟨g25, e25⟩ := hS.i 25 (by decide) (by decide) rfl
  have n0 : ¬ nI f = 0 := fun z => by
    have := (nI_eq (a := f) (b := 0) (by omega) (by omega)).mp z
    omega
  have at10 : ∀ v, v = nI (17 * d + c) → Go l G 12 s_X12_circuit 0 0 Post 10 [(3, .int v), (0, .ref o), (2, .int ow)] [] h nx 0 0 := by
    intro v hv
    subst hv
    have Q1 := hF.row (j := 23) (e := .inl (0, 85, .inl (upd g23 (17 * d + c) x41))) (rowS_i (by decide) rfl ⟨_, rfl⟩)
    have Q2 := Q1.row (j := 25) (e := .inl (0, 85, .inl (upd g25 (17 * d + c) x43))) (rowS_i (by decide) rfl ⟨_, rfl⟩)
    have Q3 := Q2.s49 (v := 0)
    refine Go.of hX.2 ck_X12_circuit [] 60 ?_
    refine Exists.intro _ (And.intro hM.1 (Exists.intro _ (And.intro (hM.2.2 23 (by decide)) ?_)))
    refine Exists.intro _ (And.intro hM.1 (Exists.intro _ (And.intro c41 ?_)))
    refine Exists.intro _ (Exists.intro _ (And.intro e23 (And.intro (vp_in_nI hc85 (by decide)) ?_)))
    rw [nI_clamp (show 17 * d + c < 2 ^ 31 by omega)]
    refine Exists.intro _ (And.intro Q1.1.1 (Exists.intro _ (And.intro (hM.2.2 25 (by decide)) ?_)))
    refine Exists.intro _ (And.intro Q1.1.1 (Exists.intro _ (And.intro c43 ?_)))
    refine Exists.intro _ (Exists.intro _ (And.intro ((uph_ne (by omega)).trans e25) (And.intro (vp_in_nI hc85 (by decide)) ?_)))
    rw [nI_clamp (show 17 * d + c < 2 ^ 31 by omega)]
    refine Exists.intro _ (And.intro Q2.1.1 (Exists.intro _ (And.intro c11 ?_)))
    refine Exists.intro _ (And.intro Q2.1.1 (And.intro (by rw [hM.2.1]; decide) (And.intro rfl (And.intro rfl ?_))))
    refine Exists.intro _ (And.intro Q3.1.1 (Exists.intro _ (And.intro Q3.2.2.1 ?_)))
    refine And.intro (fun _ => ?_) (fun cz => absurd cz (n0))
    refine And.intro (fun _ => ?_) (fun cz => by first | exact absurd cz (by decide) | exact absurd (by decide) cz)
    refine Exists.intro _ (And.intro Q3.1.1 (Exists.intro _ (And.intro Q3.2.2.1 ?_)))
    refine And.intro (fun cz => absurd cz (show ¬ nI f ≤ 0 from nI_ge (a := 0) f0 (by omega))) (fun _ => ?_)
    refine hP _ _ Q3 (hR.up [23, 25] ((pfF.rf fs).st (by omega)) (fun x y1 y2 => (uph_ne y1).trans ((uph_ne (y2 25 (by decide))).trans (uph_ne (y2 23 (by decide))))) ⟨⟨by decide, by decide, fun _ => rowZ.u e23 ((uph_ne (by omega)).trans ((uph_ne (by omega)).trans uph_eq)) (show 17 * d ≤ 17 * d + c by omega)⟩, ⟨by decide, by decide, fun _ => rowZ.u e25 ((uph_ne (by omega)).trans uph_eq) (show 17 * d ≤ 17 * d + c by omega)⟩, True.intro⟩) ((pfF.rf fs).st (by omega)) (fun x y1 y2 y3 => (uph_ne y1).trans ((uph_ne y3).trans (uph_ne y2)))
  refine en_X12_circuit hX [10] 40 rfl ?_
  refine Exists.intro _ (And.intro hM.1 (Exists.intro _ (And.intro f20 ?_)))
  exact go_loc (lv' := [(3, .int (17 * nI d + nI c)), (0, .ref o), (2, .int ow)]) ⟨rfl, rfl, rfl, trivial⟩ (at10 _ ei)
theorem WRs.seg {kd pl : Nat → Nat} {vl : Nat → Int64} {t t2 wo : Nat} {wp : Int32} (W : WRs kd vl pl t wo wp) (htt : t ≤ t2) (h : ∀ i, t ≤ i → i < t2 → eXz kd vl i = 0) : WRs kd vl pl t2 wo wp := by
  obtain ⟨m, rfl⟩ := Nat.exists_eq_add_of_le htt
  induction m with
  | zero => exact W
  | succ m ih => exact (ih (by omega) (fun i h1 h2 => h i h1 (by omega))).s0 (h (t + m) (by omega) (by omega))
theorem eX_c {kd : Nat → Nat} {vl : Nat → Int64} {a j : Nat} (hi : inC kd a j) (h10 : 10 ≤ zS (zz kd j)) : ∀ i, a ≤ i → i < j + 1 → eXz kd vl i = 0 := fun i h1 h2 => by
  by_cases e : i = j
  · rw [e]; exact eX_0 (by omega) (Or.inr h10)
  · have := (hi i h1 (by omega)).1
    exact eX_0 (by omega) (Or.inr this)
/-- what stands behind a circuit is no ;, or there is no room for it -/
theorem semi_tie {kd : Nat → Nat} (hkd : ∀ i, kd i < 19) {N j f : Nat} (hZ : zEnd kd N) (ha : ∀ i, i < j → zok kd i) (hs : zS (zz kd j) = 12) (hd : zD (zz kd j) = 0) (h15 : kd j ≠ 15) (h16 : kd j ≠ 16) (h : mstF kd j 12 f) : N = j ∧ zFt kd N = f := by
  rcases h with ⟨a, rfl⟩ | ⟨a, b, rfl⟩
  · exact stop_1 hkd hZ ha (by rw [hs]; exact zB12_n ⟨h15, h16, by omega, by omega⟩) (fun _ => by omega)
  · exact stop_2 hkd hZ ha (s := 0) (by rw [hs, hd, a]; rfl) (Or.inl (by omega))
theorem circ_end {kd : Nat → Nat} (hkd : ∀ i, kd i < 19) {N o d a j wo : Nat} {wp : Int32} {h0 h1 h2 : AH} {fs0 fs1 fs2 : List Value} (hZ : zEnd kd N) (ha : ∀ i, i < j → zok kd i) (haj : a ≤ j) (hi : inC kd a j) (hs : zS (zz kd j) = 12) (hd : zD (zz kd j) = 0) (h12 : kd j = 12) (hj : j < 400) (M : MRs kd o d h0 fs0 h1 fs1 j (gCn kd j) wo wp [] ((cG kd j).2 ++ (gsA 4 (cG kd j).1).2)) (P : PRs h2 o fs2 ((j + 1, 0, 420 * d + ((cG kd j).2 ++ (gsA 4 (cG kd j).1).2).length, 420 * d + gCn kd j), (wN kd j, 0, wo, wp))) (hF : pfF fs1 fs2) (hf : ∀ x, x ≠ o → h2 x = h1 x) : j < N ∧ TXT kd (j + 1) ∧ MRt kd o d h0 fs0 h2 fs2 (j + 1) wo wp ∧ zI (zz kd (j + 1)) = zI (zz kd a) ∧ zR (zz kd (j + 1)) = zR (zz kd a) ∧ zL (zz kd (j + 1)) = zL (zz kd a) ∧ zV (zz kd (j + 1)) = zV (zz kd a) := by
  obtain ⟨x1, x2, x3, x4⟩ := zok_k (s := 0) hZ hkd ha hj (by rw [hs, hd, h12]; rfl) (by rw [h12]; rfl)
  obtain ⟨_, m2, m3, _, m5⟩ := M
  obtain ⟨y1, y2, y3, y4, y5⟩ := hi.z hkd ha haj (Nat.le_refl j)
  have eC := cG_12 (kd := kd) (i := j) (by omega) h12
  have eG : gCn kd (j + 1) = gCn kd j := by
    show gCn kd j + (if 10 ≤ zS (zz kd j) ∧ kd j ≠ 12 then 1 else 0) = _
    rw [if_neg (fun z => z.2 h12)]
    rfl
  have eW : wN kd (j + 1) = wN kd j := wN_s (by omega)
  have eK : zK (zz kd (j + 1)) = zK (zz kd j) := by rw [x4]; exact zK_s (by omega)
  refine ⟨x1, ⟨hkd, x3, by rw [x4, zA_S]⟩, ⟨⟨0, by rw [eC, eG, eW]; exact P⟩, m2.ob hF hf, (m3.ag (fun k _ => hf _ (by omega))).stay eK (no_nm hkd x3 eW eK), by rw [eC]; exact m5.ag (hf _ (by omega))⟩, ?_, ?_, ?_, ?_⟩
  · rw [x4, zA_I, if_neg (by omega)]; exact y2
  · rw [x4, zA_R, if_neg (by omega)]; exact y3
  · rw [x4, zA_L, if_neg (by omega)]; exact y4
  · rw [x4, zA_V, if_neg (by omega)]; exact y5
