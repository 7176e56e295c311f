/-! one call on fresh objects -/
theorem mk_lt {i : Nat} {e : AE} (he : arM[i]? = some e) : i < 63 := (List.getElem?_eq_some_iff.mp he).1
theorem nm_fresh {h0 h : AH} {w o : Nat} (hM : Mk h0 w o 12 h (fsM w) arM) : NM h o (fsM w) 0 0 0 0 := ⟨hM.2.1, rfl, rfl, rfl, rfl, rfl, rfl, rfl, rfl, rfl, Or.inl rfl⟩
theorem nm_keep {h h' : AH} {o : Nat} {fs : List Value} {z y1 y2 tl : Int32} (hN : NM h o fs z y1 y2 tl) (he : h' o = h o) : NM h' o fs z y1 y2 tl := ⟨he.trans hN.1, hN.2⟩
theorem pr_feed {l : Launch} {G : GG} {h : AH} {nx o om w : Nat} {g3 g5 : Nat → Int32} {h0 : AH} {a1 a2 a3 a4 a5 : Int32} {k n : Nat} {Q : AH → Nat → Nat → Nat → Prop} (hk : k + 100 ≤ 600000) (hn : n + 13000 ≤ 7302250) (hQ : ∀ h2 nx2 k2 n2, k2 ≤ k + 100 → n2 ≤ n + 13000 → Q h2 nx2 k2 n2) (hX : XC G ∧ TX l G) (hF : FX h o w g3 g5) (how : o < w) (hmo : w + 73 = om) (hnx : om + 64 ≤ nx) (hM : Mk h0 (om + 1) om 12 h (fsM (om + 1)) arM) : PR l G o om i_X11_feed i_X12_feed [.int a1, .int a2, .int a3, .int a4, .int a5] h nx k n Q := by
  have xo := hF.1
  have x0 := hF.2.1
  refine ⟨_, 0, 0, xo, by omega, by omega, c_feed (t := 0) (q := w) hX (by decide) xo rfl rfl rfl x0 (by omega) ?_⟩
  refine ⟨_, _, 0, 0, rfl, uph_at (by omega) (uph_at (by omega) hM.2.1), by omega, by omega, c_feedM (t := 0) (q := om + 1) hX (by decide) (uph_at (by omega) (uph_at (by omega) hM.2.1)) rfl rfl rfl (uph_at (by omega) (uph_at (by omega) (hM.2.2 0 _ rfl))) (by omega) ⟨rfl, hQ _ _ _ _ (by omega) (by omega)⟩⟩
theorem pr_back {l : Launch} {G : GG} {h : AH} {nx o om w : Nat} {g3 g5 : Nat → Int32} {h0 : AH} {a1 : Int32} {k n : Nat} {Q : AH → Nat → Nat → Nat → Prop} (hk : k + 100 ≤ 600000) (hn : n + 13000 ≤ 7302250) (hQ : ∀ h2 nx2 k2 n2, k2 ≤ k + 100 → n2 ≤ n + 13000 → Q h2 nx2 k2 n2) (hX : XC G ∧ TX l G) (hF : FX h o w g3 g5) (how : o < w) (hmo : w + 73 = om) (hnx : om + 64 ≤ nx) (hM : Mk h0 (om + 1) om 12 h (fsM (om + 1)) arM) : PR l G o om i_X11_back i_X12_back [.int a1] h nx k n Q := by
  refine ⟨_, 0, 0, hF.1, by omega, by omega, c_back (t := 0) hX hF.1 rfl rfl (fun hc => ?_) (fun c1 c2 => ?_)⟩
  · exact ⟨_, _, 0, 0, rfl, hM.2.1, by omega, by omega, c_backM (t := 0) hX hM.2.1 rfl rfl (fun _ => ⟨rfl, hQ _ _ _ _ (by omega) (by omega)⟩) (fun d1 d2 => absurd hc (fun z => z.elim d1 d2))⟩
  · have hm2 := hM.2.1
    rw [← uph_ne (h := h) (a := o) (e := _) (show om ≠ o by omega)] at hm2
    exact ⟨_, _, 0, 0, rfl, hm2, by omega, by omega, c_backM (t := 0) hX hm2 rfl rfl (fun z => absurd z (fun z => z.elim c1 c2)) (fun _ _ => ⟨rfl, hQ _ _ _ _ (by omega) (by omega)⟩)⟩
theorem pr_read {l : Launch} {G : GG} {h : AH} {nx o om w : Nat} {g3 g5 : Nat → Int32} {h0 : AH}  {k n : Nat} {Q : AH → Nat → Nat → Nat → Prop} (hk : k + 100 ≤ 600000) (hn : n + 13000 ≤ 7302250) (hQ : ∀ h2 nx2 k2 n2, k2 ≤ k + 100 → n2 ≤ n + 13000 → Q h2 nx2 k2 n2) (hX : XC G ∧ TX l G) (hF : FX h o w g3 g5) (how : o < w) (hmo : w + 73 = om) (hnx : om + 64 ≤ nx) (hM : Mk h0 (om + 1) om 12 h (fsM (om + 1)) arM) : PR l G o om i_X11_read i_X12_read [] h nx k n Q := by
  refine ⟨_, 60, 12000, hF.1, by omega, by omega, z_readX hX hF how (by omega) (fun h1 nx1 z1 => ?_)⟩
  have hM1 : Mk h1 (om + 1) om 12 h1 (fsM (om + 1)) arM := ⟨fun _ _ _ => rfl, (z1 _ (by omega) (by omega)).trans hM.2.1, fun i e he => (z1 _ (by omega) (by have := mk_lt he; omega)).trans (hM.2.2 i e he)⟩
  exact ⟨0, _, 0, 0, rfl, hM1.2.1, by omega, by omega, z_readM hX rfl hM1 (fun h2 => ⟨rfl, hQ _ _ _ _ (by omega) (by omega)⟩)⟩
theorem pr_place {l : Launch} {G : GG} {h : AH} {nx o om w : Nat} {g3 g5 : Nat → Int32} {h0 : AH}  {k n : Nat} {Q : AH → Nat → Nat → Nat → Prop} (hk : k + 100 ≤ 600000) (hn : n + 13000 ≤ 7302250) (hQ : ∀ h2 nx2 k2 n2, k2 ≤ k + 100 → n2 ≤ n + 13000 → Q h2 nx2 k2 n2) (hX : XC G ∧ TX l G) (hF : FX h o w g3 g5) (how : o < w) (hmo : w + 73 = om) (hnx : om + 64 ≤ nx) (hM : Mk h0 (om + 1) om 12 h (fsM (om + 1)) arM) : PR l G o om i_X11_place i_X12_place [] h nx k n Q := by
  exact ⟨_, 0, 0, hF.1, by omega, by omega, c_place hX hF.1 rfl ⟨_, _, 0, 0, rfl, hM.2.1, by omega, by omega, c_placeM hX hM.2.1 rfl ⟨rfl, hQ _ _ _ _ (by omega) (by omega)⟩⟩⟩
theorem pr_use {l : Launch} {G : GG} {h : AH} {nx o om w : Nat} {g3 g5 : Nat → Int32} {h0 : AH} {a1 : Int32} {k n : Nat} {Q : AH → Nat → Nat → Nat → Prop} (hk : k + 100 ≤ 600000) (hn : n + 13000 ≤ 7302250) (hQ : ∀ h2 nx2 k2 n2, k2 ≤ k + 100 → n2 ≤ n + 13000 → Q h2 nx2 k2 n2) (hX : XC G ∧ TX l G) (hF : FX h o w g3 g5) (how : o < w) (hmo : w + 73 = om) (hnx : om + 64 ≤ nx) (hM : Mk h0 (om + 1) om 12 h (fsM (om + 1)) arM) : PR l G o om i_X11_use i_X12_use [.int a1] h nx k n Q := by
  obtain ⟨fs, fb, fi, fw, fl, fv, ft, df, g, hN⟩ := hF.nd
  have hN2 := nm_fresh hM
  exact ⟨_, 0, 0, hN.1, by omega, by omega, nd_use hX hN ⟨(0), _, 0, 0, rfl, hN2.1, by omega, by omega, nm_use hX hN2 ⟨rfl, hQ _ _ _ _ (by omega) (by omega)⟩⟩⟩
theorem pr_contact {l : Launch} {G : GG} {h : AH} {nx o om w : Nat} {g3 g5 : Nat → Int32} {h0 : AH} {a1 a2 : Int32} {k n : Nat} {Q : AH → Nat → Nat → Nat → Prop} (hk : k + 100 ≤ 600000) (hn : n + 13000 ≤ 7302250) (hQ : ∀ h2 nx2 k2 n2, k2 ≤ k + 100 → n2 ≤ n + 13000 → Q h2 nx2 k2 n2) (hX : XC G ∧ TX l G) (hF : FX h o w g3 g5) (how : o < w) (hmo : w + 73 = om) (hnx : om + 64 ≤ nx) (hM : Mk h0 (om + 1) om 12 h (fsM (om + 1)) arM) : PR l G o om i_X11_contact i_X12_contact [.int a1, .int a2] h nx k n Q := by
  obtain ⟨fs, fb, fi, fw, fl, fv, ft, df, g, hN⟩ := hF.nd
  have hN2 := nm_fresh hM
  exact ⟨_, 0, 0, hN.1, by omega, by omega, nd_contact hX hN ⟨(-1), _, 0, 0, rfl, hN2.1, by omega, by omega, nm_contact hX hN2 ⟨rfl, hQ _ _ _ _ (by omega) (by omega)⟩⟩⟩
theorem pr_flaw {l : Launch} {G : GG} {h : AH} {nx o om w : Nat} {g3 g5 : Nat → Int32} {h0 : AH} {a1 : Int32} {k n : Nat} {Q : AH → Nat → Nat → Nat → Prop} (hk : k + 100 ≤ 600000) (hn : n + 13000 ≤ 7302250) (hQ : ∀ h2 nx2 k2 n2, k2 ≤ k + 100 → n2 ≤ n + 13000 → Q h2 nx2 k2 n2) (hX : XC G ∧ TX l G) (hF : FX h o w g3 g5) (how : o < w) (hmo : w + 73 = om) (hnx : om + 64 ≤ nx) (hM : Mk h0 (om + 1) om 12 h (fsM (om + 1)) arM) : PR l G o om i_X11_flaw i_X12_flaw [.int a1] h nx k n Q := by
  obtain ⟨fs, fb, fi, fw, fl, fv, ft, df, g, hN⟩ := hF.nd
  have hN2 := nm_fresh hM
  exact ⟨_, 0, 0, hN.1, by omega, by omega, nd_flaw hX hN ⟨(-1), _, 0, 0, rfl, hN2.1, by omega, by omega, nm_flaw hX hN2 ⟨rfl, hQ _ _ _ _ (by omega) (by omega)⟩⟩⟩
theorem pr_settles {l : Launch} {G : GG} {h : AH} {nx o om w : Nat} {g3 g5 : Nat → Int32} {h0 : AH} {a1 a2 a3 a4 : Int32} {k n : Nat} {Q : AH → Nat → Nat → Nat → Prop} (hk : k + 100 ≤ 600000) (hn : n + 13000 ≤ 7302250) (hQ : ∀ h2 nx2 k2 n2, k2 ≤ k + 100 → n2 ≤ n + 13000 → Q h2 nx2 k2 n2) (hX : XC G ∧ TX l G) (hF : FX h o w g3 g5) (how : o < w) (hmo : w + 73 = om) (hnx : om + 64 ≤ nx) (hM : Mk h0 (om + 1) om 12 h (fsM (om + 1)) arM) : PR l G o om i_X11_settles i_X12_settles [.int a1, .int a2, .int a3, .int a4] h nx k n Q := by
  obtain ⟨fs, fb, fi, fw, fl, fv, ft, df, g, hN⟩ := hF.nd
  have hN2 := nm_fresh hM
  exact ⟨_, 0, 0, hN.1, by omega, by omega, nd_settles hX hN ⟨(-1), _, 0, 0, rfl, hN2.1, by omega, by omega, nm_settles hX hN2 ⟨rfl, hQ _ _ _ _ (by omega) (by omega)⟩⟩⟩
theorem pr_shows {l : Launch} {G : GG} {h : AH} {nx o om w : Nat} {g3 g5 : Nat → Int32} {h0 : AH} {a1 a2 a3 a4 : Int32} {k n : Nat} {Q : AH → Nat → Nat → Nat → Prop} (hk : k + 100 ≤ 600000) (hn : n + 13000 ≤ 7302250) (hQ : ∀ h2 nx2 k2 n2, k2 ≤ k + 100 → n2 ≤ n + 13000 → Q h2 nx2 k2 n2) (hX : XC G ∧ TX l G) (hF : FX h o w g3 g5) (how : o < w) (hmo : w + 73 = om) (hnx : om + 64 ≤ nx) (hM : Mk h0 (om + 1) om 12 h (fsM (om + 1)) arM) : PR l G o om i_X11_shows i_X12_shows [.int a1, .int a2, .int a3, .int a4] h nx k n Q := by
  obtain ⟨fs, fb, fi, fw, fl, fv, ft, df, g, hN⟩ := hF.nd
  have hN2 := nm_fresh hM
  exact ⟨_, 0, 0, hN.1, by omega, by omega, nd_shows hX hN ⟨(-1), _, 0, 0, rfl, hN2.1, by omega, by omega, nm_shows hX hN2 ⟨rfl, hQ _ _ _ _ (by omega) (by omega)⟩⟩⟩
theorem pr_start {l : Launch} {G : GG} {h : AH} {nx o om w : Nat} {g3 g5 : Nat → Int32} {h0 : AH} {a1 a2 : Int32} {k n : Nat} {Q : AH → Nat → Nat → Nat → Prop} (hk : k + 100 ≤ 600000) (hn : n + 13000 ≤ 7302250) (hQ : ∀ h2 nx2 k2 n2, k2 ≤ k + 100 → n2 ≤ n + 13000 → Q h2 nx2 k2 n2) (hX : XC G ∧ TX l G) (hF : FX h o w g3 g5) (how : o < w) (hmo : w + 73 = om) (hnx : om + 64 ≤ nx) (hM : Mk h0 (om + 1) om 12 h (fsM (om + 1)) arM) : PR l G o om i_X11_start i_X12_start [.int a1, .int a2] h nx k n Q := by
  obtain ⟨fs, fb, fi, fw, fl, fv, ft, df, g, hN⟩ := hF.nd
  have hN2 := nm_fresh hM
  exact ⟨_, 0, 0, hN.1, by omega, by omega, nd_start hX hN ⟨(-1), _, 0, 0, rfl, hN2.1, by omega, by omega, nm_start hX hN2 ⟨rfl, hQ _ _ _ _ (by omega) (by omega)⟩⟩⟩
theorem pr_reached {l : Launch} {G : GG} {h : AH} {nx o om w : Nat} {g3 g5 : Nat → Int32} {h0 : AH} {a1 a2 : Int32} {k n : Nat} {Q : AH → Nat → Nat → Nat → Prop} (hk : k + 100 ≤ 600000) (hn : n + 13000 ≤ 7302250) (hQ : ∀ h2 nx2 k2 n2, k2 ≤ k + 100 → n2 ≤ n + 13000 → Q h2 nx2 k2 n2) (hX : XC G ∧ TX l G) (hF : FX h o w g3 g5) (how : o < w) (hmo : w + 73 = om) (hnx : om + 64 ≤ nx) (hM : Mk h0 (om + 1) om 12 h (fsM (om + 1)) arM) : PR l G o om i_X11_reached i_X12_reached [.int a1, .int a2] h nx k n Q := by
  obtain ⟨fs, fb, fi, fw, fl, fv, ft, df, g, hN⟩ := hF.nd
  have hN2 := nm_fresh hM
  exact ⟨_, 0, 0, hN.1, by omega, by omega, nd_reached hX hN ⟨(-1), _, 0, 0, rfl, hN2.1, by omega, by omega, nm_reached hX hN2 ⟨rfl, hQ _ _ _ _ (by omega) (by omega)⟩⟩⟩
theorem pr_races {l : Launch} {G : GG} {h : AH} {nx o om w : Nat} {g3 g5 : Nat → Int32} {h0 : AH} {a1 a2 : Int32} {k n : Nat} {Q : AH → Nat → Nat → Nat → Prop} (hk : k + 100 ≤ 600000) (hn : n + 13000 ≤ 7302250) (hQ : ∀ h2 nx2 k2 n2, k2 ≤ k + 100 → n2 ≤ n + 13000 → Q h2 nx2 k2 n2) (hX : XC G ∧ TX l G) (hF : FX h o w g3 g5) (how : o < w) (hmo : w + 73 = om) (hnx : om + 64 ≤ nx) (hM : Mk h0 (om + 1) om 12 h (fsM (om + 1)) arM) : PR l G o om i_X11_races i_X12_races [.int a1, .int a2] h nx k n Q := by
  obtain ⟨fs, fb, fi, fw, fl, fv, ft, df, g, hN⟩ := hF.nd
  have hN2 := nm_fresh hM
  exact ⟨_, 0, 0, hN.1, by omega, by omega, nd_races hX hN ⟨(-1), _, 0, 0, rfl, hN2.1, by omega, by omega, nm_races hX hN2 ⟨rfl, hQ _ _ _ _ (by omega) (by omega)⟩⟩⟩
theorem pr_bad {l : Launch} {G : GG} {h : AH} {nx o om w : Nat} {g3 g5 : Nat → Int32} {h0 : AH} {a1 a2 : Int32} {k n : Nat} {Q : AH → Nat → Nat → Nat → Prop} (hk : k + 100 ≤ 600000) (hn : n + 13000 ≤ 7302250) (hQ : ∀ h2 nx2 k2 n2, k2 ≤ k + 100 → n2 ≤ n + 13000 → Q h2 nx2 k2 n2) (hX : XC G ∧ TX l G) (hF : FX h o w g3 g5) (how : o < w) (hmo : w + 73 = om) (hnx : om + 64 ≤ nx) (hM : Mk h0 (om + 1) om 12 h (fsM (om + 1)) arM) : PR l G o om i_X11_bad i_X12_bad [.int a1, .int a2] h nx k n Q := by
  obtain ⟨fs, fb, fi, fw, fl, fv, ft, df, g, hN⟩ := hF.nd
  have hN2 := nm_fresh hM
  exact ⟨_, 0, 0, hN.1, by omega, by omega, nd_bad hX hN ⟨(-1), _, 0, 0, rfl, hN2.1, by omega, by omega, nm_bad hX hN2 ⟨rfl, hQ _ _ _ _ (by omega) (by omega)⟩⟩⟩
theorem pr_badAct {l : Launch} {G : GG} {h : AH} {nx o om w : Nat} {g3 g5 : Nat → Int32} {h0 : AH} {a1 a2 a3 : Int32} {k n : Nat} {Q : AH → Nat → Nat → Nat → Prop} (hk : k + 100 ≤ 600000) (hn : n + 13000 ≤ 7302250) (hQ : ∀ h2 nx2 k2 n2, k2 ≤ k + 100 → n2 ≤ n + 13000 → Q h2 nx2 k2 n2) (hX : XC G ∧ TX l G) (hF : FX h o w g3 g5) (how : o < w) (hmo : w + 73 = om) (hnx : om + 64 ≤ nx) (hM : Mk h0 (om + 1) om 12 h (fsM (om + 1)) arM) : PR l G o om i_X11_badAct i_X12_badAct [.int a1, .int a2, .int a3] h nx k n Q := by
  obtain ⟨fs, fb, fi, fw, fl, fv, ft, df, g, hN⟩ := hF.nd
  have hN2 := nm_fresh hM
  exact ⟨_, 0, 0, hN.1, by omega, by omega, nd_badAct hX hN ⟨(-1), _, 0, 0, rfl, hN2.1, by omega, by omega, nm_badAct hX hN2 ⟨rfl, hQ _ _ _ _ (by omega) (by omega)⟩⟩⟩
theorem pr_singles {l : Launch} {G : GG} {h : AH} {nx o om w : Nat} {g3 g5 : Nat → Int32} {h0 : AH}  {k n : Nat} {Q : AH → Nat → Nat → Nat → Prop} (hk : k + 100 ≤ 600000) (hn : n + 13000 ≤ 7302250) (hQ : ∀ h2 nx2 k2 n2, k2 ≤ k + 100 → n2 ≤ n + 13000 → Q h2 nx2 k2 n2) (hX : XC G ∧ TX l G) (hF : FX h o w g3 g5) (how : o < w) (hmo : w + 73 = om) (hnx : om + 64 ≤ nx) (hM : Mk h0 (om + 1) om 12 h (fsM (om + 1)) arM) : PR l G o om i_X11_singles i_X12_singles [] h nx k n Q := by
  obtain ⟨fs, fb, fi, fw, fl, fv, ft, df, g, hN⟩ := hF.nd
  have hN2 := nm_fresh hM
  exact ⟨_, 0, 0, hN.1, by omega, by omega, nd_singles hX hN ⟨(0), _, 0, 0, rfl, hN2.1, by omega, by omega, nm_singles hX hN2 ⟨rfl, hQ _ _ _ _ (by omega) (by omega)⟩⟩⟩
theorem pr_pairs {l : Launch} {G : GG} {h : AH} {nx o om w : Nat} {g3 g5 : Nat → Int32} {h0 : AH} {a1 : Int32} {k n : Nat} {Q : AH → Nat → Nat → Nat → Prop} (hk : k + 100 ≤ 600000) (hn : n + 13000 ≤ 7302250) (hQ : ∀ h2 nx2 k2 n2, k2 ≤ k + 100 → n2 ≤ n + 13000 → Q h2 nx2 k2 n2) (hX : XC G ∧ TX l G) (hF : FX h o w g3 g5) (how : o < w) (hmo : w + 73 = om) (hnx : om + 64 ≤ nx) (hM : Mk h0 (om + 1) om 12 h (fsM (om + 1)) arM) : PR l G o om i_X11_pairs i_X12_pairs [.int a1] h nx k n Q := by
  obtain ⟨fs, fb, fi, fw, fl, fv, ft, df, g, hN⟩ := hF.nd
  have hN2 := nm_fresh hM
  exact ⟨_, 0, 0, hN.1, by omega, by omega, nd_pairs hX hN ⟨(-1), _, 0, 0, rfl, hN2.1, by omega, by omega, nm_pairs hX hN2 ⟨rfl, hQ _ _ _ _ (by omega) (by omega)⟩⟩⟩
theorem pr_pair {l : Launch} {G : GG} {h : AH} {nx o om w : Nat} {g3 g5 : Nat → Int32} {h0 : AH} {a1 a2 : Int32} {k n : Nat} {Q : AH → Nat → Nat → Nat → Prop} (hk : k + 100 ≤ 600000) (hn : n + 13000 ≤ 7302250) (hQ : ∀ h2 nx2 k2 n2, k2 ≤ k + 100 → n2 ≤ n + 13000 → Q h2 nx2 k2 n2) (hX : XC G ∧ TX l G) (hF : FX h o w g3 g5) (how : o < w) (hmo : w + 73 = om) (hnx : om + 64 ≤ nx) (hM : Mk h0 (om + 1) om 12 h (fsM (om + 1)) arM) : PR l G o om i_X11_pair i_X12_pair [.int a1, .int a2] h nx k n Q := by
  obtain ⟨fs, fb, fi, fw, fl, fv, ft, df, g, hN⟩ := hF.nd
  have hN2 := nm_fresh hM
  exact ⟨_, 0, 0, hN.1, by omega, by omega, nd_pair hX hN ⟨(-1), _, 0, 0, rfl, hN2.1, by omega, by omega, nm_pair hX hN2 ⟨rfl, hQ _ _ _ _ (by omega) (by omega)⟩⟩⟩
theorem pr_least {l : Launch} {G : GG} {h : AH} {nx o om w : Nat} {g3 g5 : Nat → Int32} {h0 : AH} {a1 : Int32} {k n : Nat} {Q : AH → Nat → Nat → Nat → Prop} (hk : k + 100 ≤ 600000) (hn : n + 13000 ≤ 7302250) (hQ : ∀ h2 nx2 k2 n2, k2 ≤ k + 100 → n2 ≤ n + 13000 → Q h2 nx2 k2 n2) (hX : XC G ∧ TX l G) (hF : FX h o w g3 g5) (how : o < w) (hmo : w + 73 = om) (hnx : om + 64 ≤ nx) (hM : Mk h0 (om + 1) om 12 h (fsM (om + 1)) arM) : PR l G o om i_X11_least i_X12_least [.int a1] h nx k n Q := by
  obtain ⟨fs, fb, fi, fw, fl, fv, ft, df, g, hN⟩ := hF.nd
  have hN2 := nm_fresh hM
  exact ⟨_, 0, 0, hN.1, by omega, by omega, nd_least hX hN ⟨(-1), _, 0, 0, rfl, hN2.1, by omega, by omega, nm_least hX hN2 ⟨rfl, hQ _ _ _ _ (by omega) (by omega)⟩⟩⟩
theorem pr_leastAct {l : Launch} {G : GG} {h : AH} {nx o om w : Nat} {g3 g5 : Nat → Int32} {h0 : AH} {a1 a2 : Int32} {k n : Nat} {Q : AH → Nat → Nat → Nat → Prop} (hk : k + 100 ≤ 600000) (hn : n + 13000 ≤ 7302250) (hQ : ∀ h2 nx2 k2 n2, k2 ≤ k + 100 → n2 ≤ n + 13000 → Q h2 nx2 k2 n2) (hX : XC G ∧ TX l G) (hF : FX h o w g3 g5) (how : o < w) (hmo : w + 73 = om) (hnx : om + 64 ≤ nx) (hM : Mk h0 (om + 1) om 12 h (fsM (om + 1)) arM) : PR l G o om i_X11_leastAct i_X12_leastAct [.int a1, .int a2] h nx k n Q := by
  obtain ⟨fs, fb, fi, fw, fl, fv, ft, df, g, hN⟩ := hF.nd
  have hN2 := nm_fresh hM
  exact ⟨_, 0, 0, hN.1, by omega, by omega, nd_leastAct hX hN ⟨(-1), _, 0, 0, rfl, hN2.1, by omega, by omega, nm_leastAct hX hN2 ⟨rfl, hQ _ _ _ _ (by omega) (by omega)⟩⟩⟩
theorem pr_hidden {l : Launch} {G : GG} {h : AH} {nx o om w : Nat} {g3 g5 : Nat → Int32} {h0 : AH}  {k n : Nat} {Q : AH → Nat → Nat → Nat → Prop} (hk : k + 100 ≤ 600000) (hn : n + 13000 ≤ 7302250) (hQ : ∀ h2 nx2 k2 n2, k2 ≤ k + 100 → n2 ≤ n + 13000 → Q h2 nx2 k2 n2) (hX : XC G ∧ TX l G) (hF : FX h o w g3 g5) (how : o < w) (hmo : w + 73 = om) (hnx : om + 64 ≤ nx) (hM : Mk h0 (om + 1) om 12 h (fsM (om + 1)) arM) : PR l G o om i_X11_hidden i_X12_hidden [] h nx k n Q := by
  obtain ⟨fs, fb, fi, fw, fl, fv, ft, df, g, hN⟩ := hF.nd
  have hN2 := nm_fresh hM
  exact ⟨_, 0, 0, hN.1, by omega, by omega, nd_hidden hX hN ⟨0, _, 0, 0, rfl, hN2.1, by omega, by omega, nm_hidden hX hN2 ⟨rfl, hQ _ _ _ _ (by omega) (by omega)⟩⟩⟩
theorem pr_suite {l : Launch} {G : GG} {h : AH} {nx o om w : Nat} {g3 g5 : Nat → Int32} {h0 : AH}  {k n : Nat} {Q : AH → Nat → Nat → Nat → Prop} (hk : k + 100 ≤ 600000) (hn : n + 13000 ≤ 7302250) (hQ : ∀ h2 nx2 k2 n2, k2 ≤ k + 100 → n2 ≤ n + 13000 → Q h2 nx2 k2 n2) (hX : XC G ∧ TX l G) (hF : FX h o w g3 g5) (how : o < w) (hmo : w + 73 = om) (hnx : om + 64 ≤ nx) (hM : Mk h0 (om + 1) om 12 h (fsM (om + 1)) arM) : PR l G o om i_X11_suite i_X12_suite [] h nx k n Q := by
  obtain ⟨fs, fb, fi, fw, fl, fv, ft, df, g, hN⟩ := hF.nd
  have hN2 := nm_fresh hM
  have hN3 := nm_keep (h' := uph h (w + 21) (.inr (1, fi.set 6 (.int 0)))) hN2 (uph_ne (by omega))
  exact ⟨_, 0, 0, hN.1, by omega, by omega, nd_suite hX hN ⟨0, _, 0, 0, rfl, hN3.1, by omega, by omega, nm_suite hX hN3 ⟨rfl, hQ _ _ _ _ (by omega) (by omega)⟩⟩⟩
theorem pr_suiteAct {l : Launch} {G : GG} {h : AH} {nx o om w : Nat} {g3 g5 : Nat → Int32} {h0 : AH} {a1 a2 : Int32} {k n : Nat} {Q : AH → Nat → Nat → Nat → Prop} (hk : k + 100 ≤ 600000) (hn : n + 13000 ≤ 7302250) (hQ : ∀ h2 nx2 k2 n2, k2 ≤ k + 100 → n2 ≤ n + 13000 → Q h2 nx2 k2 n2) (hX : XC G ∧ TX l G) (hF : FX h o w g3 g5) (how : o < w) (hmo : w + 73 = om) (hnx : om + 64 ≤ nx) (hM : Mk h0 (om + 1) om 12 h (fsM (om + 1)) arM) : PR l G o om i_X11_suiteAct i_X12_suiteAct [.int a1, .int a2] h nx k n Q := by
  obtain ⟨fs, fb, fi, fw, fl, fv, ft, df, g, hN⟩ := hF.nd
  have hN2 := nm_fresh hM
  have hN3 := nm_keep (h' := uph h (w + 21) (.inr (1, fi.set 6 (.int 0)))) hN2 (uph_ne (by omega))
  exact ⟨_, 0, 0, hN.1, by omega, by omega, nd_suiteAct hX hN ⟨(-1), _, 0, 0, rfl, hN3.1, by omega, by omega, nm_suiteAct hX hN3 ⟨rfl, hQ _ _ _ _ (by omega) (by omega)⟩⟩⟩
theorem pr_suiteActs {l : Launch} {G : GG} {h : AH} {nx o om w : Nat} {g3 g5 : Nat → Int32} {h0 : AH}  {k n : Nat} {Q : AH → Nat → Nat → Nat → Prop} (hk : k + 100 ≤ 600000) (hn : n + 13000 ≤ 7302250) (hQ : ∀ h2 nx2 k2 n2, k2 ≤ k + 100 → n2 ≤ n + 13000 → Q h2 nx2 k2 n2) (hX : XC G ∧ TX l G) (hF : FX h o w g3 g5) (how : o < w) (hmo : w + 73 = om) (hnx : om + 64 ≤ nx) (hM : Mk h0 (om + 1) om 12 h (fsM (om + 1)) arM) : PR l G o om i_X11_suiteActs i_X12_suiteActs [] h nx k n Q := by
  obtain ⟨fs, fb, fi, fw, fl, fv, ft, df, g, hN⟩ := hF.nd
  have hN2 := nm_fresh hM
  have hN3 := nm_keep (h' := uph h (w + 21) (.inr (1, fi.set 6 (.int 0)))) hN2 (uph_ne (by omega))
  exact ⟨_, 0, 0, hN.1, by omega, by omega, nd_suiteActs hX hN ⟨0, _, 0, 0, rfl, hN3.1, by omega, by omega, nm_suiteActs hX hN3 ⟨rfl, hQ _ _ _ _ (by omega) (by omega)⟩⟩⟩
theorem pr_unlike {l : Launch} {G : GG} {h : AH} {nx o om w : Nat} {g3 g5 : Nat → Int32} {h0 : AH} {a1 a2 : Int32} {k n : Nat} {Q : AH → Nat → Nat → Nat → Prop} (hk : k + 100 ≤ 600000) (hn : n + 13000 ≤ 7302250) (hQ : ∀ h2 nx2 k2 n2, k2 ≤ k + 100 → n2 ≤ n + 13000 → Q h2 nx2 k2 n2) (hX : XC G ∧ TX l G) (hF : FX h o w g3 g5) (how : o < w) (hmo : w + 73 = om) (hnx : om + 64 ≤ nx) (hM : Mk h0 (om + 1) om 12 h (fsM (om + 1)) arM) : PR l G o om i_X11_unlike i_X12_unlike [.int a1, .int a2] h nx k n Q := by
  obtain ⟨fs, fb, fi, fw, fl, fv, ft, df, g, hN⟩ := hF.nd
  have hN2 := nm_fresh hM
  exact ⟨_, 0, 0, hN.1, by omega, by omega, nd_unlike hX hN ⟨(-1), _, 0, 0, rfl, hN2.1, by omega, by omega, nm_unlike hX hN2 ⟨rfl, hQ _ _ _ _ (by omega) (by omega)⟩⟩⟩
theorem pr_safe {l : Launch} {G : GG} {h : AH} {nx o om w : Nat} {g3 g5 : Nat → Int32} {h0 : AH} {a1 a2 a3 : Int32} {k n : Nat} {Q : AH → Nat → Nat → Nat → Prop} (hk : k + 100 ≤ 600000) (hn : n + 13000 ≤ 7302250) (hQ : ∀ h2 nx2 k2 n2, k2 ≤ k + 100 → n2 ≤ n + 13000 → Q h2 nx2 k2 n2) (hX : XC G ∧ TX l G) (hF : FX h o w g3 g5) (how : o < w) (hmo : w + 73 = om) (hnx : om + 64 ≤ nx) (hM : Mk h0 (om + 1) om 12 h (fsM (om + 1)) arM) : PR l G o om i_X11_safe i_X12_safe [.int a1, .int a2, .int a3] h nx k n Q := by
  obtain ⟨fs, fb, fi, fw, fl, fv, ft, df, g, hN⟩ := hF.nd
  have hN2 := nm_fresh hM
  exact ⟨_, 0, 0, hN.1, by omega, by omega, nd_safe hX hN ⟨(-1), _, 0, 0, rfl, hN2.1, by omega, by omega, nm_safe hX hN2 ⟨rfl, hQ _ _ _ _ (by omega) (by omega)⟩⟩⟩
theorem pr_plan {l : Launch} {G : GG} {h : AH} {nx o om w : Nat} {g3 g5 : Nat → Int32} {h0 : AH} {a1 a2 a3 : Int32} {k n : Nat} {Q : AH → Nat → Nat → Nat → Prop} (hk : k + 100 ≤ 600000) (hn : n + 13000 ≤ 7302250) (hQ : ∀ h2 nx2 k2 n2, k2 ≤ k + 100 → n2 ≤ n + 13000 → Q h2 nx2 k2 n2) (hX : XC G ∧ TX l G) (hF : FX h o w g3 g5) (how : o < w) (hmo : w + 73 = om) (hnx : om + 64 ≤ nx) (hM : Mk h0 (om + 1) om 12 h (fsM (om + 1)) arM) : PR l G o om i_X11_plan i_X12_plan [.int a1, .int a2, .int a3] h nx k n Q := by
  obtain ⟨fs, fb, fi, fw, fl, fv, ft, df, g, hN⟩ := hF.nd
  have hN2 := nm_fresh hM
  exact ⟨_, 0, 0, hN.1, by omega, by omega, nd_plan hX hN ⟨(-1), _, 0, 0, rfl, hN2.1, by omega, by omega, nm_plan hX hN2 ⟨rfl, hQ _ _ _ _ (by omega) (by omega)⟩⟩⟩
theorem pr_stage {l : Launch} {G : GG} {h : AH} {nx o om w : Nat} {g3 g5 : Nat → Int32} {h0 : AH} {a1 a2 a3 a4 : Int32} {k n : Nat} {Q : AH → Nat → Nat → Nat → Prop} (hk : k + 100 ≤ 600000) (hn : n + 13000 ≤ 7302250) (hQ : ∀ h2 nx2 k2 n2, k2 ≤ k + 100 → n2 ≤ n + 13000 → Q h2 nx2 k2 n2) (hX : XC G ∧ TX l G) (hF : FX h o w g3 g5) (how : o < w) (hmo : w + 73 = om) (hnx : om + 64 ≤ nx) (hM : Mk h0 (om + 1) om 12 h (fsM (om + 1)) arM) : PR l G o om i_X11_stage i_X12_stage [.int a1, .int a2, .int a3, .int a4] h nx k n Q := by
  obtain ⟨fs, fb, fi, fw, fl, fv, ft, df, g, hN⟩ := hF.nd
  have hN2 := nm_fresh hM
  exact ⟨_, 0, 0, hN.1, by omega, by omega, nd_stage hX hN ⟨(-1), _, 0, 0, rfl, hN2.1, by omega, by omega, nm_stage hX hN2 ⟨rfl, hQ _ _ _ _ (by omega) (by omega)⟩⟩⟩
theorem pr_log {l : Launch} {G : GG} {h : AH} {nx o om w : Nat} {g3 g5 : Nat → Int32} {h0 : AH} {a1 a2 a3 : Int32} {k n : Nat} {Q : AH → Nat → Nat → Nat → Prop} (hk : k + 100 ≤ 600000) (hn : n + 13000 ≤ 7302250) (hQ : ∀ h2 nx2 k2 n2, k2 ≤ k + 100 → n2 ≤ n + 13000 → Q h2 nx2 k2 n2) (hX : XC G ∧ TX l G) (hF : FX h o w g3 g5) (how : o < w) (hmo : w + 73 = om) (hnx : om + 64 ≤ nx) (hM : Mk h0 (om + 1) om 12 h (fsM (om + 1)) arM) : PR l G o om i_X11_log i_X12_log [.int a1, .int a2, .int a3] h nx k n Q := by
  obtain ⟨fs, fb, fi, fw, fl, fv, ft, df, g, hN⟩ := hF.nd
  have hN2 := nm_fresh hM
  exact ⟨_, 0, 0, hN.1, by omega, by omega, nd_log hX hN ⟨(-1), _, 0, 0, rfl, hN2.1, by omega, by omega, nm_log hX hN2 ⟨rfl, hQ _ _ _ _ (by omega) (by omega)⟩⟩⟩
theorem pr_annul {l : Launch} {G : GG} {h : AH} {nx o om w : Nat} {g3 g5 : Nat → Int32} {h0 : AH} {a1 : Int32} {k n : Nat} {Q : AH → Nat → Nat → Nat → Prop} (hk : k + 100 ≤ 600000) (hn : n + 13000 ≤ 7302250) (hQ : ∀ h2 nx2 k2 n2, k2 ≤ k + 100 → n2 ≤ n + 13000 → Q h2 nx2 k2 n2) (hX : XC G ∧ TX l G) (hF : FX h o w g3 g5) (how : o < w) (hmo : w + 73 = om) (hnx : om + 64 ≤ nx) (hM : Mk h0 (om + 1) om 12 h (fsM (om + 1)) arM) : PR l G o om i_X11_annul i_X12_annul [.int a1] h nx k n Q := by
  obtain ⟨fs, fb, fi, fw, fl, fv, ft, df, g, hN⟩ := hF.nd
  have hN2 := nm_fresh hM
  exact ⟨_, 0, 0, hN.1, by omega, by omega, nd_annul hX hN ⟨(-1), _, 0, 0, rfl, hN2.1, by omega, by omega, nm_annul hX hN2 ⟨rfl, hQ _ _ _ _ (by omega) (by omega)⟩⟩⟩
theorem pr_fits {l : Launch} {G : GG} {h : AH} {nx o om w : Nat} {g3 g5 : Nat → Int32} {h0 : AH} {a1 a2 : Int32} {k n : Nat} {Q : AH → Nat → Nat → Nat → Prop} (hk : k + 100 ≤ 600000) (hn : n + 13000 ≤ 7302250) (hQ : ∀ h2 nx2 k2 n2, k2 ≤ k + 100 → n2 ≤ n + 13000 → Q h2 nx2 k2 n2) (hX : XC G ∧ TX l G) (hF : FX h o w g3 g5) (how : o < w) (hmo : w + 73 = om) (hnx : om + 64 ≤ nx) (hM : Mk h0 (om + 1) om 12 h (fsM (om + 1)) arM) : PR l G o om i_X11_fits i_X12_fits [.int a1, .int a2] h nx k n Q := by
  obtain ⟨fs, fb, fi, fw, fl, fv, ft, df, g, hN⟩ := hF.nd
  have hN2 := nm_fresh hM
  exact ⟨_, 0, 0, hN.1, by omega, by omega, nd_fits hX hN ⟨(-2), _, 0, 0, rfl, hN2.1, by omega, by omega, nm_fits hX hN2 ⟨rfl, hQ _ _ _ _ (by omega) (by omega)⟩⟩⟩
theorem pr_suspects {l : Launch} {G : GG} {h : AH} {nx o om w : Nat} {g3 g5 : Nat → Int32} {h0 : AH} {a1 : Int32} {k n : Nat} {Q : AH → Nat → Nat → Nat → Prop} (hk : k + 100 ≤ 600000) (hn : n + 13000 ≤ 7302250) (hQ : ∀ h2 nx2 k2 n2, k2 ≤ k + 100 → n2 ≤ n + 13000 → Q h2 nx2 k2 n2) (hX : XC G ∧ TX l G) (hF : FX h o w g3 g5) (how : o < w) (hmo : w + 73 = om) (hnx : om + 64 ≤ nx) (hM : Mk h0 (om + 1) om 12 h (fsM (om + 1)) arM) : PR l G o om i_X11_suspects i_X12_suspects [.int a1] h nx k n Q := by
  obtain ⟨fs, fb, fi, fw, fl, fv, ft, df, g, hN⟩ := hF.nd
  have hN2 := nm_fresh hM
  exact ⟨_, 0, 0, hN.1, by omega, by omega, nd_suspects hX hN ⟨(-1), _, 0, 0, rfl, hN2.1, by omega, by omega, nm_suspects hX hN2 ⟨rfl, hQ _ _ _ _ (by omega) (by omega)⟩⟩⟩
theorem pr_next {l : Launch} {G : GG} {h : AH} {nx o om w : Nat} {g3 g5 : Nat → Int32} {h0 : AH} {a1 : Int32} {k n : Nat} {Q : AH → Nat → Nat → Nat → Prop} (hk : k + 100 ≤ 600000) (hn : n + 13000 ≤ 7302250) (hQ : ∀ h2 nx2 k2 n2, k2 ≤ k + 100 → n2 ≤ n + 13000 → Q h2 nx2 k2 n2) (hX : XC G ∧ TX l G) (hF : FX h o w g3 g5) (how : o < w) (hmo : w + 73 = om) (hnx : om + 64 ≤ nx) (hM : Mk h0 (om + 1) om 12 h (fsM (om + 1)) arM) : PR l G o om i_X11_next i_X12_next [.int a1] h nx k n Q := by
  obtain ⟨fs, fb, fi, fw, fl, fv, ft, df, g, hN⟩ := hF.nd
  have hN2 := nm_fresh hM
  exact ⟨_, 0, 0, hN.1, by omega, by omega, nd_next hX hN ⟨(-1), _, 0, 0, rfl, hN2.1, by omega, by omega, nm_next hX hN2 ⟨rfl, hQ _ _ _ _ (by omega) (by omega)⟩⟩⟩
theorem pr_set {l : Launch} {G : GG} {h : AH} {nx o om w : Nat} {g3 g5 : Nat → Int32} {h0 : AH} {a1 a2 : Int32} {k n : Nat} {Q : AH → Nat → Nat → Nat → Prop} (hk : k + 100 ≤ 600000) (hn : n + 13000 ≤ 7302250) (hQ : ∀ h2 nx2 k2 n2, k2 ≤ k + 100 → n2 ≤ n + 13000 → Q h2 nx2 k2 n2) (hX : XC G ∧ TX l G) (hF : FX h o w g3 g5) (how : o < w) (hmo : w + 73 = om) (hnx : om + 64 ≤ nx) (hM : Mk h0 (om + 1) om 12 h (fsM (om + 1)) arM) : PR l G o om i_X11_set i_X12_set [.int a1, .int a2] h nx k n Q := by
  obtain ⟨fs, fb, fi, fw, fl, fv, ft, df, g, hN⟩ := hF.nd
  have hN2 := nm_fresh hM
  exact ⟨_, 0, 0, hN.1, by omega, by omega, nd_set hX hN ⟨(0), _, 0, 0, rfl, hN2.1, by omega, by omega, nm_set hX hN2 ⟨rfl, hQ _ _ _ _ (by omega) (by omega)⟩⟩⟩
theorem pr_strap {l : Launch} {G : GG} {h : AH} {nx o om w : Nat} {g3 g5 : Nat → Int32} {h0 : AH} {a1 a2 : Int32} {k n : Nat} {Q : AH → Nat → Nat → Nat → Prop} (hk : k + 100 ≤ 600000) (hn : n + 13000 ≤ 7302250) (hQ : ∀ h2 nx2 k2 n2, k2 ≤ k + 100 → n2 ≤ n + 13000 → Q h2 nx2 k2 n2) (hX : XC G ∧ TX l G) (hF : FX h o w g3 g5) (how : o < w) (hmo : w + 73 = om) (hnx : om + 64 ≤ nx) (hM : Mk h0 (om + 1) om 12 h (fsM (om + 1)) arM) : PR l G o om i_X11_strap i_X12_strap [.int a1, .int a2] h nx k n Q := by
  obtain ⟨fs, fb, fi, fw, fl, fv, ft, df, g, hN⟩ := hF.nd
  have hN2 := nm_fresh hM
  exact ⟨_, 0, 0, hN.1, by omega, by omega, nd_strap hX hN ⟨(0), _, 0, 0, rfl, hN2.1, by omega, by omega, nm_strap hX hN2 ⟨rfl, hQ _ _ _ _ (by omega) (by omega)⟩⟩⟩
theorem pr_age {l : Launch} {G : GG} {h : AH} {nx o om w : Nat} {g3 g5 : Nat → Int32} {h0 : AH} {a1 a2 : Int32} {k n : Nat} {Q : AH → Nat → Nat → Nat → Prop} (hk : k + 100 ≤ 600000) (hn : n + 13000 ≤ 7302250) (hQ : ∀ h2 nx2 k2 n2, k2 ≤ k + 100 → n2 ≤ n + 13000 → Q h2 nx2 k2 n2) (hX : XC G ∧ TX l G) (hF : FX h o w g3 g5) (how : o < w) (hmo : w + 73 = om) (hnx : om + 64 ≤ nx) (hM : Mk h0 (om + 1) om 12 h (fsM (om + 1)) arM) : PR l G o om i_X11_age i_X12_age [.int a1, .int a2] h nx k n Q := by
  obtain ⟨fs, fb, fi, fw, fl, fv, ft, df, g, hN⟩ := hF.nd
  have hN2 := nm_fresh hM
  exact ⟨_, 0, 0, hN.1, by omega, by omega, nd_age hX hN ⟨(0), _, 0, 0, rfl, hN2.1, by omega, by omega, nm_age hX hN2 ⟨rfl, hQ _ _ _ _ (by omega) (by omega)⟩⟩⟩
theorem pr_round {l : Launch} {G : GG} {h : AH} {nx o om w : Nat} {g3 g5 : Nat → Int32} {h0 : AH}  {k n : Nat} {Q : AH → Nat → Nat → Nat → Prop} (hk : k + 100 ≤ 600000) (hn : n + 13000 ≤ 7302250) (hQ : ∀ h2 nx2 k2 n2, k2 ≤ k + 100 → n2 ≤ n + 13000 → Q h2 nx2 k2 n2) (hX : XC G ∧ TX l G) (hF : FX h o w g3 g5) (how : o < w) (hmo : w + 73 = om) (hnx : om + 64 ≤ nx) (hM : Mk h0 (om + 1) om 12 h (fsM (om + 1)) arM) : PR l G o om i_X11_round i_X12_round [] h nx k n Q := by
  obtain ⟨fs, fb, fi, fw, fl, fv, ft, df, g, hN⟩ := hF.nd
  have hN2 := nm_fresh hM
  exact ⟨_, 0, 0, hN.1, by omega, by omega, nd_round hX hN ⟨(-1), _, 0, 0, rfl, hN2.1, by omega, by omega, nm_round hX hN2 ⟨rfl, hQ _ _ _ _ (by omega) (by omega)⟩⟩⟩
theorem pr_clash {l : Launch} {G : GG} {h : AH} {nx o om w : Nat} {g3 g5 : Nat → Int32} {h0 : AH}  {k n : Nat} {Q : AH → Nat → Nat → Nat → Prop} (hk : k + 100 ≤ 600000) (hn : n + 13000 ≤ 7302250) (hQ : ∀ h2 nx2 k2 n2, k2 ≤ k + 100 → n2 ≤ n + 13000 → Q h2 nx2 k2 n2) (hX : XC G ∧ TX l G) (hF : FX h o w g3 g5) (how : o < w) (hmo : w + 73 = om) (hnx : om + 64 ≤ nx) (hM : Mk h0 (om + 1) om 12 h (fsM (om + 1)) arM) : PR l G o om i_X11_clash i_X12_clash [] h nx k n Q := by
  obtain ⟨fs, fb, fi, fw, fl, fv, ft, df, g, hN⟩ := hF.nd
  have hN2 := nm_fresh hM
  exact ⟨_, 0, 0, hN.1, by omega, by omega, nd_clash hX hN ⟨(0), _, 0, 0, rfl, hN2.1, by omega, by omega, nm_clash hX hN2 ⟨rfl, hQ _ _ _ _ (by omega) (by omega)⟩⟩⟩
theorem pr_hand {l : Launch} {G : GG} {h : AH} {nx o om w : Nat} {g3 g5 : Nat → Int32} {h0 : AH} {a1 : Int32} {k n : Nat} {Q : AH → Nat → Nat → Nat → Prop} (hk : k + 100 ≤ 600000) (hn : n + 13000 ≤ 7302250) (hQ : ∀ h2 nx2 k2 n2, k2 ≤ k + 100 → n2 ≤ n + 13000 → Q h2 nx2 k2 n2) (hX : XC G ∧ TX l G) (hF : FX h o w g3 g5) (how : o < w) (hmo : w + 73 = om) (hnx : om + 64 ≤ nx) (hM : Mk h0 (om + 1) om 12 h (fsM (om + 1)) arM) : PR l G o om i_X11_hand i_X12_hand [.int a1] h nx k n Q := by
  obtain ⟨fs, fb, fi, fw, fl, fv, ft, df, g, hN⟩ := hF.nd
  have hN2 := nm_fresh hM
  exact ⟨_, 0, 0, hN.1, by omega, by omega, nd_hand hX hN ⟨(-1), _, 0, 0, rfl, hN2.1, by omega, by omega, nm_hand hX hN2 ⟨rfl, hQ _ _ _ _ (by omega) (by omega)⟩⟩⟩
theorem pr_count {l : Launch} {G : GG} {h : AH} {nx o om w : Nat} {g3 g5 : Nat → Int32} {h0 : AH} {a1 : Int32} {k n : Nat} {Q : AH → Nat → Nat → Nat → Prop} (hk : k + 100 ≤ 600000) (hn : n + 13000 ≤ 7302250) (hQ : ∀ h2 nx2 k2 n2, k2 ≤ k + 100 → n2 ≤ n + 13000 → Q h2 nx2 k2 n2) (hX : XC G ∧ TX l G) (hF : FX h o w g3 g5) (how : o < w) (hmo : w + 73 = om) (hnx : om + 64 ≤ nx) (hM : Mk h0 (om + 1) om 12 h (fsM (om + 1)) arM) : PR l G o om i_X11_count i_X12_count [.int a1] h nx k n Q := by
  obtain ⟨fs, fb, fi, fw, fl, fv, ft, df, g, hN⟩ := hF.nd
  have hN2 := nm_fresh hM
  exact ⟨_, 0, 0, hN.1, by omega, by omega, nd_count hX hN ⟨(cntN a1 0), _, 0, 0, rfl, hN2.1, by omega, by omega, nm_count hX hN2 ⟨rfl, hQ _ _ _ _ (by omega) (by omega)⟩⟩⟩
