/-! a call of x and of the model out of the world -/
theorem gS_b {q : Nat} (h : QV q) : gC q ≤ 5 ∧ gS q ≤ 218112 := by
  rcases h with e | e | e | e | e | e <;> rw [e] <;> decide
theorem WLD.go {h : AH} {nx o w tl c vb sb q j k n : Nat} {fp ah : Int32} {da : Nat → Nat} {dd : Nat → DD} {u : Nat → Nat} {L : List LE} {s : HWk} {fs : List Value} (hC : WC o w (w + 73) tl c ah dd u L s) (hx : ∃ (kn : Nat → Nat → Bool) (sc : Nat → Int32), WX h nx o w tl fp c ah da dd vb q u L s kn sc) (hm : WM h (w + 73) fs tl fp c ah dd sb u L s) (hv : vb ≤ 400 * (j + 1) ∧ sb ≤ 300 * (j + 1)) (hk : k ≤ 138 + 60 * (j + 1) + gC q ∧ n ≤ 454361 + 12000 * (j + 1) + gS q) : WLD h nx o w (w + 73) (j + 1) k n := by
  obtain ⟨kn, sc, x⟩ := hx
  exact ⟨tl, c, vb, sb, q, fp, ah, da, dd, u, L, s, kn, sc, fs, hC, x, hm, hv.1, hv.2, hk.1, hk.2⟩
theorem WXE.ag {h h' : AH} {nx o w tl c vb q : Nat} {fp ah : Int32} {da : Nat → Nat} {dd : Nat → DD} {u : Nat → Nat} {L : List LE} {s : HWk} (H : ∃ (kn : Nat → Nat → Bool) (sc : Nat → Int32), WX h nx o w tl fp c ah da dd vb q u L s kn sc) (how : o < w) (hs : ∀ x, x < w + 73 ∨ w + 137 ≤ x → h' x = h x) : ∃ (kn : Nat → Nat → Bool) (sc : Nat → Int32), WX h' nx o w tl fp c ah da dd vb q u L s kn sc := by
  obtain ⟨kn, sc, x⟩ := H
  exact ⟨kn, sc, x.ag hs how⟩
/-- both answer v and leave all as it is -/
theorem pw0 {l : Launch} {G : GG} {h : AH} {nx o om i1 i2 k n : Nat} {as fx fm : List Value} {v : Int32} {Q : AH → Nat → Nat → Nat → Prop} (ho : h o = some (.inr (11, fx))) (hm : h om = some (.inr (12, fm))) (hk : k ≤ 330716) (hn : n ≤ 8110100) (r1 : ∀ P : Option Value → AH → Nat → Prop, P (some (.int v)) h nx → Runs l G i1 0 0 (.ref o :: as) h nx P) (r2 : ∀ P : Option Value → AH → Nat → Prop, P (some (.int v)) h nx → Runs l G i2 0 0 (.ref om :: as) h nx P) (hQ : Q h nx k n) : PR l G o om i1 i2 as h nx k n Q := ⟨fx, 0, 0, ho, hk, hn, r1 _ ⟨v, fm, 0, 0, rfl, hm, hk, hn, r2 _ ⟨rfl, hQ⟩⟩⟩
section WMP
variable {h : AH} {o tl c sb t : Nat} {fs : List Value} {fp ah : Int32} {dd : Nat → DD} {u : Nat → Nat} {L : List LE} {s : HWk}
theorem WM.q19 (H : WM h o fs tl fp c (nI t) dd sb u L s) : fs[19]? = some (.int (nI t)) := H.2.2.2.2.2.1.2.2
theorem WM.qps (H : WM h o fs tl fp c ah dd sb u L s) : MPs h o fs c dd := H.2.2.2.1
theorem WM.qpg (H : WM h o fs tl fp c ah dd sb u L s) (ht : t < c) : MPg h o t (dd t) := (H.2.2.2.1.2.2 t ht).1
theorem WM.qwd (H : WM h o fs tl fp c ah dd sb u L s) (ht : t < c) : WD (dd t) := (H.2.2.2.1.2.2 t ht).2
theorem WM.qst (H : WM h o fs tl fp c ah dd sb u L s) : MSt h o fs sb := H.2.2.2.2.2.2.2.2.2.2.1
theorem WM.qlg (H : WM h o fs tl fp c ah dd sb u L s) : MLg h o fs L := H.2.2.2.2.2.2.2.2.2.2.2.1
theorem WM.qhw (H : WM h o fs tl fp c (nI t) dd sb u L s) (ht : t < c) : MHw h o fs (dd t) s ∧ (fs[84]? = some (.int 0) ∨ rwK h o fs (dd t)) := H.2.2.2.2.2.2.2.2.2.2.2.2.1 t ht rfl
end WMP
section WXP
variable {h : AH} {nx o w tl c vb q t : Nat} {fp ah : Int32} {da : Nat → Nat} {dd : Nat → DD} {u : Nat → Nat} {L : List LE} {s : HWk} {kn : Nat → Nat → Bool} {sc : Nat → Int32}
theorem WX.qhw (H : WX h nx o w tl fp c (nI t) da dd vb q u L s kn sc) (ht : t < c) : XHw h w (da t) s := by
  obtain ⟨a, f1, f2⟩ := H.2.2.2.2.2.1
  rw [← f2 t ht rfl]
  exact f1
theorem WX.qff (H : WX h nx o w tl fp c ah da dd vb q u L s kn sc) (ht : t < c) : FO h (da t) (sc t) ∧ FA h (da t) (dd t) ∧ FP h (da t) (dd t) ∧ FLk h (da t) (dd t) (kn t) ∧ FS h (da t) (dd t) (sc t) := H.2.2.2.2.2.2.2.2.2.1 t ht
end WXP
/-- the suite without a drawing -/
theorem WX.su0 {h : AH} {nx o w tl vb q : Nat} {fp : Int32} {da : Nat → Nat} {dd : Nat → DD} {u : Nat → Nat} {s : HWk} {kn : Nat → Nat → Bool} {sc : Nat → Int32} {fx fb fi fw fl fv ft : List Value} {df : Nat → Option Nat} {g : Nat → Int32} {z tl2 : Int32} (H : WX h nx o w tl fp 0 (-1) da dd vb q u [] s kn sc) (hN : ND h o fx fb fi fw fl fv ft (w + 1) (w + 30) (w + 21) (w + 22) (w + 70) (w + 64) (w + 48) (w + 52) df g z tl2) (how : o < w) : WX (uph h (w + 21) (.inr (1, fi.set 6 (.int 0)))) nx o w tl fp 0 (-1) da dd vb q u [] s kn sc := by
  obtain ⟨a, b, c1, d, e, ⟨a0, f1, f2⟩, g1, i, ⟨gt, j1, j2⟩, k, l⟩ := H
  have ne : ∀ x, x ≠ w + 21 → (uph h (w + 21) (.inr (1, fi.set 6 (.int 0)))) x = h x := fun x hx => uph_ne hx
  obtain ⟨_, _, _, _, _, _, _, _, _, _, b1, b2, b3, b4, b5, b6, b7, b8, b9, b10, b11, b12, b13, b14, b15, b16, b17, b18, b19, b20⟩ := nd_suited hN
  exact ⟨a.ag (fun x hx => ne x (by rcases hx with y | y | y | ⟨t, t1, y⟩ <;> omega)), b.ag (fun x _ _ => ne x (by omega)), c1.ag (fun x _ _ => ne x (by omega)), d.ag (fun x hx => ne x (by omega)), e.ag (fun x _ _ => ne x (by omega)), ⟨a0, f1.ag (fun x _ _ => ne x (by omega)), f2⟩, g1.ag (fun x _ _ => ne x (by omega)), i.ag (fun x _ _ => ne x (by omega)), ⟨gt, (ne _ (by omega)).trans j1, j2⟩, fun t ht => absurd ht (Nat.not_lt_zero t), fun _ => ⟨_, _, _, _, _, _, _, _, _, b1, b2, b3, b4, b5, b6, b7, b8, b9, b10, b11, b12, b13, b14, b15, b16, b17, b18, b19, b20⟩⟩
theorem WM.su0 {h : AH} {o tl sb : Nat} {fs : List Value} {fp : Int32} {dd : Nat → DD} {u : Nat → Nat} {s : HWk} (H : WM h o fs tl fp 0 (-1) dd sb u [] s) : WM (uph h o (.inr (12, fsS fs))) o (fsS fs) tl fp 0 (-1) dd sb u [] s := by
  obtain ⟨a1, a2, a3, a4, a5, ⟨a6, a7, a8⟩, ⟨v9, a9⟩, ⟨v10, a10⟩, ⟨g, a11, a11b⟩, a12, a13, a14, a15, a16⟩ := H
  have hg : ∀ k, k ≠ 84 → k ≠ 85 → k ≠ 86 → (fsS fs)[k]? = fs[k]? := fun k h1 h2 h3 => by unfold fsS; rw [get_set_ne (Ne.symm h3), get_set_ne (Ne.symm h2), get_set_ne (Ne.symm h1)]
  have ln := a1.2.1
  have l1 : (fs.set 84 (.int 1)).length = 99 := by rw [List.length_set]; exact ln
  have l2 : ((fs.set 84 (.int 1)).set 85 (.int 0)).length = 99 := by rw [List.length_set]; exact l1
  have rr : ∀ j, (uph h o (.inr (12, fsS fs))) (o + 1 + j) = h (o + 1 + j) := fun j => uph_ne (by omega)
  have rf : ∀ j, j < 63 → rfM j ≠ 84 ∧ rfM j ≠ 85 ∧ rfM j ≠ 86 := by decide
  refine ⟨⟨uph_eq, by unfold fsS; rw [List.length_set]; exact l2, fun j hj => (hg _ (rf j hj).1 (rf j hj).2.1 (rf j hj).2.2).trans (a1.2.2 j hj)⟩, a2.upd (fun j _ => Or.inl (rr j)), ?_, ⟨(hg 18 (by decide) (by decide) (by decide)).trans a4.1, a4.2.1, fun i hi => absurd hi (Nat.not_lt_zero i)⟩, fun i hi => absurd hi (Nat.not_lt_zero i), ⟨(hg 2 (by decide) (by decide) (by decide)).trans a6, (hg 17 (by decide) (by decide) (by decide)).trans a7, (hg 19 (by decide) (by decide) (by decide)).trans a8⟩, ⟨v9, (hg 16 (by decide) (by decide) (by decide)).trans a9⟩, ⟨v10, (hg 49 (by decide) (by decide) (by decide)).trans a10⟩, ⟨g, (rr 0).trans a11, a11b⟩, by rw [rr 8]; exact a12, a13.ag (rr 51) (hg 81 (by decide) (by decide) (by decide)), a14.ag (hg 91 (by decide) (by decide) (by decide)) (fun j _ _ => rr j), fun t ht _ => absurd ht (Nat.not_lt_zero t), fun _ => ⟨(hg 55 (by decide) (by decide) (by decide)).trans (a16 rfl).1, 1, 0, 0, ?_, ?_, ?_, Or.inr ⟨rfl, rfl, rfl⟩⟩⟩
  · obtain ⟨gg, z1, z2⟩ := a3
    exact ⟨gg, (rr 6).trans z1, z2⟩
  · unfold fsS; rw [get_set_ne (by decide), get_set_ne (by decide)]; exact get_set (by omega)
  · unfold fsS; rw [get_set_ne (by decide)]; exact get_set (by omega)
  · exact get_set (by omega)
section PRS
variable {l : Launch} {G : GG} {h : AH} {nx o w om j k n : Nat} {Q : AH → Nat → Nat → Nat → Prop}
set_option maxHeartbeats 2000000 in
theorem pw_contact {a1 a2 : Int32} (hX : XC G ∧ TX l G) (hW : WLD h nx o w om j k n) (hj : j < 512) (hQ : ∀ (h2 : AH) (nx2 k2 n2 : Nat), WLD h2 nx2 o w om (j + 1) k2 n2 → Q h2 nx2 k2 n2) : PR l G o om i_X11_contact i_X12_contact [.int a1, .int a2] h nx k n Q := by
  obtain ⟨tl, c, vb, sb, q, fp, ah, da, dd, u, L, s, kn, sc, fs, hC, hx, hm, v1, v2, v3, v4⟩ := hW
  obtain ⟨rfl, how, htl, hu, hwl, hcc⟩ := id hC
  obtain ⟨gb1, gb2⟩ := gS_b hx.nxw.2.1
  rcases hcc with ⟨rfl, rfl, rfl⟩ | ⟨t, ht, rfl, hs⟩
  · obtain ⟨fx, fb, fi, fw, fl, fv, ft, df, g, z, hN⟩ := hx.nd
    obtain ⟨z1, y1, y2, hN2⟩ := hm.nm
    exact pw0 hN.1 hN2.1 (by omega) (by omega) (fun _ hP => nd_contact hX hN hP) (fun _ hP => nm_contact hX hN2 hP) (hQ _ _ _ _ (WLD.go hC ⟨kn, sc, hx⟩ hm (by omega) (by omega)))
  · have hwd := hm.qwd ht
    exact pw0 hx.1.1 hm.1.1 (by omega) (by omega) (fun _ hP => x_contact hX hx.1 ht hP) (fun _ hP => m_contact hX hm.1 hm.q19 (hm.qpg ht) hwd hP) (hQ _ _ _ _ (WLD.go hC ⟨kn, sc, hx⟩ hm (by omega) (by omega)))
set_option maxHeartbeats 2000000 in
theorem pw_flaw {a1 : Int32} (hX : XC G ∧ TX l G) (hW : WLD h nx o w om j k n) (hj : j < 512) (hQ : ∀ (h2 : AH) (nx2 k2 n2 : Nat), WLD h2 nx2 o w om (j + 1) k2 n2 → Q h2 nx2 k2 n2) : PR l G o om i_X11_flaw i_X12_flaw [.int a1] h nx k n Q := by
  obtain ⟨tl, c, vb, sb, q, fp, ah, da, dd, u, L, s, kn, sc, fs, hC, hx, hm, v1, v2, v3, v4⟩ := hW
  obtain ⟨rfl, how, htl, hu, hwl, hcc⟩ := id hC
  obtain ⟨gb1, gb2⟩ := gS_b hx.nxw.2.1
  rcases hcc with ⟨rfl, rfl, rfl⟩ | ⟨t, ht, rfl, hs⟩
  · obtain ⟨fx, fb, fi, fw, fl, fv, ft, df, g, z, hN⟩ := hx.nd
    obtain ⟨z1, y1, y2, hN2⟩ := hm.nm
    exact pw0 hN.1 hN2.1 (by omega) (by omega) (fun _ hP => nd_flaw hX hN hP) (fun _ hP => nm_flaw hX hN2 hP) (hQ _ _ _ _ (WLD.go hC ⟨kn, sc, hx⟩ hm (by omega) (by omega)))
  · have hwd := hm.qwd ht
    exact pw0 hx.1.1 hm.1.1 (by omega) (by omega) (fun _ hP => x_flaw hX hx.1 ht hP) (fun _ hP => m_flaw hX hm.1 hm.q19 (hm.qpg ht) hwd hP) (hQ _ _ _ _ (WLD.go hC ⟨kn, sc, hx⟩ hm (by omega) (by omega)))
set_option maxHeartbeats 2000000 in
theorem pw_unlike {a1 a2 : Int32} (hX : XC G ∧ TX l G) (hW : WLD h nx o w om j k n) (hj : j < 512) (hQ : ∀ (h2 : AH) (nx2 k2 n2 : Nat), WLD h2 nx2 o w om (j + 1) k2 n2 → Q h2 nx2 k2 n2) : PR l G o om i_X11_unlike i_X12_unlike [.int a1, .int a2] h nx k n Q := by
  obtain ⟨tl, c, vb, sb, q, fp, ah, da, dd, u, L, s, kn, sc, fs, hC, hx, hm, v1, v2, v3, v4⟩ := hW
  obtain ⟨rfl, how, htl, hu, hwl, hcc⟩ := id hC
  obtain ⟨gb1, gb2⟩ := gS_b hx.nxw.2.1
  rcases hcc with ⟨rfl, rfl, rfl⟩ | ⟨t, ht, rfl, hs⟩
  · obtain ⟨fx, fb, fi, fw, fl, fv, ft, df, g, z, hN⟩ := hx.nd
    obtain ⟨z1, y1, y2, hN2⟩ := hm.nm
    exact pw0 hN.1 hN2.1 (by omega) (by omega) (fun _ hP => nd_unlike hX hN hP) (fun _ hP => nm_unlike hX hN2 hP) (hQ _ _ _ _ (WLD.go hC ⟨kn, sc, hx⟩ hm (by omega) (by omega)))
  · have hwd := hm.qwd ht
    exact pw0 hx.1.1 hm.1.1 (by omega) (by omega) (fun _ hP => x_unlike hX hx.1 hP) (fun _ hP => m_unlike hX hm.1 hm.qps hP) (hQ _ _ _ _ (WLD.go hC ⟨kn, sc, hx⟩ hm (by omega) (by omega)))
set_option maxHeartbeats 2000000 in
theorem pw_clash (hX : XC G ∧ TX l G) (hW : WLD h nx o w om j k n) (hj : j < 512) (hQ : ∀ (h2 : AH) (nx2 k2 n2 : Nat), WLD h2 nx2 o w om (j + 1) k2 n2 → Q h2 nx2 k2 n2) : PR l G o om i_X11_clash i_X12_clash [] h nx k n Q := by
  obtain ⟨tl, c, vb, sb, q, fp, ah, da, dd, u, L, s, kn, sc, fs, hC, hx, hm, v1, v2, v3, v4⟩ := hW
  obtain ⟨rfl, how, htl, hu, hwl, hcc⟩ := id hC
  obtain ⟨gb1, gb2⟩ := gS_b hx.nxw.2.1
  rcases hcc with ⟨rfl, rfl, rfl⟩ | ⟨t, ht, rfl, hs⟩
  · obtain ⟨fx, fb, fi, fw, fl, fv, ft, df, g, z, hN⟩ := hx.nd
    obtain ⟨z1, y1, y2, hN2⟩ := hm.nm
    exact pw0 hN.1 hN2.1 (by omega) (by omega) (fun _ hP => nd_clash hX hN hP) (fun _ hP => nm_clash hX hN2 hP) (hQ _ _ _ _ (WLD.go hC ⟨kn, sc, hx⟩ hm (by omega) (by omega)))
  · have hwd := hm.qwd ht
    exact pw0 hx.1.1 hm.1.1 (by omega) (by omega) (fun _ hP => x_clash hX hx.1 (hx.qhw ht) hP) (fun _ hP => m_clash hX hm.1 (hm.qhw ht).1 hP) (hQ _ _ _ _ (WLD.go hC ⟨kn, sc, hx⟩ hm (by omega) (by omega)))
set_option maxHeartbeats 2000000 in
theorem pw_count {a1 : Int32} (hX : XC G ∧ TX l G) (hW : WLD h nx o w om j k n) (hj : j < 512) (hQ : ∀ (h2 : AH) (nx2 k2 n2 : Nat), WLD h2 nx2 o w om (j + 1) k2 n2 → Q h2 nx2 k2 n2) : PR l G o om i_X11_count i_X12_count [.int a1] h nx k n Q := by
  obtain ⟨tl, c, vb, sb, q, fp, ah, da, dd, u, L, s, kn, sc, fs, hC, hx, hm, v1, v2, v3, v4⟩ := hW
  obtain ⟨rfl, how, htl, hu, hwl, hcc⟩ := id hC
  obtain ⟨gb1, gb2⟩ := gS_b hx.nxw.2.1
  rcases hcc with ⟨rfl, rfl, rfl⟩ | ⟨t, ht, rfl, hs⟩
  · obtain ⟨fx, fb, fi, fw, fl, fv, ft, df, g, z, hN⟩ := hx.nd
    obtain ⟨z1, y1, y2, hN2⟩ := hm.nm
    exact pw0 hN.1 hN2.1 (by omega) (by omega) (fun _ hP => nd_count hX hN hP) (fun _ hP => nm_count hX hN2 hP) (hQ _ _ _ _ (WLD.go hC ⟨kn, sc, hx⟩ hm (by omega) (by omega)))
  · have hwd := hm.qwd ht
    obtain ⟨_, _, _, _, _, _, _, _, l91, _⟩ := hm.qlg
    exact pw0 hx.1.1 hm.1.1 (by omega) (by omega) (fun _ hP => x_count hX hx.1 ht hx.2.2.2.2.1 hP) (fun _ hP => m_count hX hm.1 hm.q19 hm.qps.1 hm.2.2.2.2.2.1.1 l91 (hm.qpg ht) hwd hP) (hQ _ _ _ _ (WLD.go hC ⟨kn, sc, hx⟩ hm (by omega) (by omega)))
set_option maxHeartbeats 2000000 in
theorem pw_settles {a1 a2 a3 a4 : Int32} (hX : XC G ∧ TX l G) (hW : WLD h nx o w om j k n) (hj : j < 512) (hQ : ∀ (h2 : AH) (nx2 k2 n2 : Nat), WLD h2 nx2 o w om (j + 1) k2 n2 → Q h2 nx2 k2 n2) : PR l G o om i_X11_settles i_X12_settles [.int a1, .int a2, .int a3, .int a4] h nx k n Q := by
  obtain ⟨tl, c, vb, sb, q, fp, ah, da, dd, u, L, s, kn, sc, fs, hC, hx, hm, v1, v2, v3, v4⟩ := hW
  obtain ⟨rfl, how, htl, hu, hwl, hcc⟩ := id hC
  obtain ⟨gb1, gb2⟩ := gS_b hx.nxw.2.1
  rcases hcc with ⟨rfl, rfl, rfl⟩ | ⟨t, ht, rfl, hs⟩
  · obtain ⟨fx, fb, fi, fw, fl, fv, ft, df, g, z, hN⟩ := hx.nd
    obtain ⟨z1, y1, y2, hN2⟩ := hm.nm
    exact pw0 hN.1 hN2.1 (by omega) (by omega) (fun _ hP => nd_settles hX hN hP) (fun _ hP => nm_settles hX hN2 hP) (hQ _ _ _ _ (WLD.go hC ⟨kn, sc, hx⟩ hm (by omega) (by omega)))
  · have hwd := hm.qwd ht
    refine ⟨_, 0, 0, hx.1.1, by omega, by omega, x_settles hX hx.1 hx.2.1 ht (by omega) (fun h1 hs1 b1 => ?_)⟩
    have hm1 : WM h1 (w + 73) fs tl fp c (nI t) dd sb u L s := hm.ag (fun x y1 y2 => hs1 x (by omega))
    exact ⟨_, _, 0, 0, rfl, hm1.1.1, by omega, by omega, m_settles hX hm1.1 hm1.2.1 hm1.q19 (hm1.qpg ht) hwd (fun h2 fs2 R => ⟨rfl, hQ _ _ _ _ (WLD.go hC (WXE.ag (hx.hut ht how hs1 b1 (by omega)) how (fun x y => R.2.2.2 x (by omega))) (hm1.mh R (by omega)) (by omega) (by omega))⟩)⟩
set_option maxHeartbeats 2000000 in
theorem pw_shows {a1 a2 a3 a4 : Int32} (hX : XC G ∧ TX l G) (hW : WLD h nx o w om j k n) (hj : j < 512) (hQ : ∀ (h2 : AH) (nx2 k2 n2 : Nat), WLD h2 nx2 o w om (j + 1) k2 n2 → Q h2 nx2 k2 n2) : PR l G o om i_X11_shows i_X12_shows [.int a1, .int a2, .int a3, .int a4] h nx k n Q := by
  obtain ⟨tl, c, vb, sb, q, fp, ah, da, dd, u, L, s, kn, sc, fs, hC, hx, hm, v1, v2, v3, v4⟩ := hW
  obtain ⟨rfl, how, htl, hu, hwl, hcc⟩ := id hC
  obtain ⟨gb1, gb2⟩ := gS_b hx.nxw.2.1
  rcases hcc with ⟨rfl, rfl, rfl⟩ | ⟨t, ht, rfl, hs⟩
  · obtain ⟨fx, fb, fi, fw, fl, fv, ft, df, g, z, hN⟩ := hx.nd
    obtain ⟨z1, y1, y2, hN2⟩ := hm.nm
    exact pw0 hN.1 hN2.1 (by omega) (by omega) (fun _ hP => nd_shows hX hN hP) (fun _ hP => nm_shows hX hN2 hP) (hQ _ _ _ _ (WLD.go hC ⟨kn, sc, hx⟩ hm (by omega) (by omega)))
  · have hwd := hm.qwd ht
    refine ⟨_, 0, 0, hx.1.1, by omega, by omega, x_shows hX hx.1 hx.2.1 ht (by omega) (fun h1 hs1 b1 => ?_)⟩
    have hm1 : WM h1 (w + 73) fs tl fp c (nI t) dd sb u L s := hm.ag (fun x y1 y2 => hs1 x (by omega))
    exact ⟨_, _, 0, 0, rfl, hm1.1.1, by omega, by omega, m_shows hX hm1.1 hm1.2.1 hm1.q19 (hm1.qpg ht) hwd (fun h2 fs2 R => ⟨rfl, hQ _ _ _ _ (WLD.go hC (WXE.ag (hx.hut ht how hs1 b1 (by omega)) how (fun x y => R.2.2.2 x (by omega))) (hm1.mh R (by omega)) (by omega) (by omega))⟩)⟩
set_option maxHeartbeats 2000000 in
theorem pw_start {a1 a2 : Int32} (hX : XC G ∧ TX l G) (hW : WLD h nx o w om j k n) (hj : j < 512) (hQ : ∀ (h2 : AH) (nx2 k2 n2 : Nat), WLD h2 nx2 o w om (j + 1) k2 n2 → Q h2 nx2 k2 n2) : PR l G o om i_X11_start i_X12_start [.int a1, .int a2] h nx k n Q := by
  obtain ⟨tl, c, vb, sb, q, fp, ah, da, dd, u, L, s, kn, sc, fs, hC, hx, hm, v1, v2, v3, v4⟩ := hW
  obtain ⟨rfl, how, htl, hu, hwl, hcc⟩ := id hC
  obtain ⟨gb1, gb2⟩ := gS_b hx.nxw.2.1
  rcases hcc with ⟨rfl, rfl, rfl⟩ | ⟨t, ht, rfl, hs⟩
  · obtain ⟨fx, fb, fi, fw, fl, fv, ft, df, g, z, hN⟩ := hx.nd
    obtain ⟨z1, y1, y2, hN2⟩ := hm.nm
    exact pw0 hN.1 hN2.1 (by omega) (by omega) (fun _ hP => nd_start hX hN hP) (fun _ hP => nm_start hX hN2 hP) (hQ _ _ _ _ (WLD.go hC ⟨kn, sc, hx⟩ hm (by omega) (by omega)))
  · have hwd := hm.qwd ht
    refine ⟨_, 0, 0, hx.1.1, by omega, by omega, x_start hX hx.1 hx.2.1 ht (by omega) (fun h1 hs1 b1 => ?_)⟩
    have hm1 : WM h1 (w + 73) fs tl fp c (nI t) dd sb u L s := hm.ag (fun x y1 y2 => hs1 x (by omega))
    exact ⟨_, _, 0, 0, rfl, hm1.1.1, by omega, by omega, m_start hX hm1.1 hm1.2.1 hm1.q19 (hm1.qpg ht) hwd (fun h2 fs2 R => ⟨rfl, hQ _ _ _ _ (WLD.go hC (WXE.ag (hx.hut ht how hs1 b1 (by omega)) how (fun x y => R.2.2.2 x (by omega))) (hm1.mh R (by omega)) (by omega) (by omega))⟩)⟩
set_option maxHeartbeats 2000000 in
theorem pw_reached {a1 a2 : Int32} (hX : XC G ∧ TX l G) (hW : WLD h nx o w om j k n) (hj : j < 512) (hQ : ∀ (h2 : AH) (nx2 k2 n2 : Nat), WLD h2 nx2 o w om (j + 1) k2 n2 → Q h2 nx2 k2 n2) : PR l G o om i_X11_reached i_X12_reached [.int a1, .int a2] h nx k n Q := by
  obtain ⟨tl, c, vb, sb, q, fp, ah, da, dd, u, L, s, kn, sc, fs, hC, hx, hm, v1, v2, v3, v4⟩ := hW
  obtain ⟨rfl, how, htl, hu, hwl, hcc⟩ := id hC
  obtain ⟨gb1, gb2⟩ := gS_b hx.nxw.2.1
  rcases hcc with ⟨rfl, rfl, rfl⟩ | ⟨t, ht, rfl, hs⟩
  · obtain ⟨fx, fb, fi, fw, fl, fv, ft, df, g, z, hN⟩ := hx.nd
    obtain ⟨z1, y1, y2, hN2⟩ := hm.nm
    exact pw0 hN.1 hN2.1 (by omega) (by omega) (fun _ hP => nd_reached hX hN hP) (fun _ hP => nm_reached hX hN2 hP) (hQ _ _ _ _ (WLD.go hC ⟨kn, sc, hx⟩ hm (by omega) (by omega)))
  · have hwd := hm.qwd ht
    refine ⟨_, 0, 0, hx.1.1, by omega, by omega, x_reached hX hx.1 hx.2.1 ht (by omega) (fun h1 hs1 b1 => ?_)⟩
    have hm1 : WM h1 (w + 73) fs tl fp c (nI t) dd sb u L s := hm.ag (fun x y1 y2 => hs1 x (by omega))
    exact ⟨_, _, 0, 0, rfl, hm1.1.1, by omega, by omega, m_reached hX hm1.1 hm1.2.1 hm1.q19 (hm1.qpg ht) hwd (fun h2 fs2 R => ⟨rfl, hQ _ _ _ _ (WLD.go hC (WXE.ag (hx.hut ht how hs1 b1 (by omega)) how (fun x y => R.2.2.2 x (by omega))) (hm1.mh R (by omega)) (by omega) (by omega))⟩)⟩
set_option maxHeartbeats 2000000 in
theorem pw_races {a1 a2 : Int32} (hX : XC G ∧ TX l G) (hW : WLD h nx o w om j k n) (hj : j < 512) (hQ : ∀ (h2 : AH) (nx2 k2 n2 : Nat), WLD h2 nx2 o w om (j + 1) k2 n2 → Q h2 nx2 k2 n2) : PR l G o om i_X11_races i_X12_races [.int a1, .int a2] h nx k n Q := by
  obtain ⟨tl, c, vb, sb, q, fp, ah, da, dd, u, L, s, kn, sc, fs, hC, hx, hm, v1, v2, v3, v4⟩ := hW
  obtain ⟨rfl, how, htl, hu, hwl, hcc⟩ := id hC
  obtain ⟨gb1, gb2⟩ := gS_b hx.nxw.2.1
  rcases hcc with ⟨rfl, rfl, rfl⟩ | ⟨t, ht, rfl, hs⟩
  · obtain ⟨fx, fb, fi, fw, fl, fv, ft, df, g, z, hN⟩ := hx.nd
    obtain ⟨z1, y1, y2, hN2⟩ := hm.nm
    exact pw0 hN.1 hN2.1 (by omega) (by omega) (fun _ hP => nd_races hX hN hP) (fun _ hP => nm_races hX hN2 hP) (hQ _ _ _ _ (WLD.go hC ⟨kn, sc, hx⟩ hm (by omega) (by omega)))
  · have hwd := hm.qwd ht
    refine ⟨_, 0, 0, hx.1.1, by omega, by omega, x_races hX hx.1 hx.2.1 ht (by omega) (fun h1 hs1 b1 => ?_)⟩
    have hm1 : WM h1 (w + 73) fs tl fp c (nI t) dd sb u L s := hm.ag (fun x y1 y2 => hs1 x (by omega))
    exact ⟨_, _, 0, 0, rfl, hm1.1.1, by omega, by omega, m_races hX hm1.1 hm1.2.1 hm1.q19 (hm1.qpg ht) hwd (fun h2 fs2 R => ⟨rfl, hQ _ _ _ _ (WLD.go hC (WXE.ag (hx.hut ht how hs1 b1 (by omega)) how (fun x y => R.2.2.2 x (by omega))) (hm1.mh R (by omega)) (by omega) (by omega))⟩)⟩
set_option maxHeartbeats 2000000 in
theorem pw_badAct {a1 a2 a3 : Int32} (hX : XC G ∧ TX l G) (hW : WLD h nx o w om j k n) (hj : j < 512) (hQ : ∀ (h2 : AH) (nx2 k2 n2 : Nat), WLD h2 nx2 o w om (j + 1) k2 n2 → Q h2 nx2 k2 n2) : PR l G o om i_X11_badAct i_X12_badAct [.int a1, .int a2, .int a3] h nx k n Q := by
  obtain ⟨tl, c, vb, sb, q, fp, ah, da, dd, u, L, s, kn, sc, fs, hC, hx, hm, v1, v2, v3, v4⟩ := hW
  obtain ⟨rfl, how, htl, hu, hwl, hcc⟩ := id hC
  obtain ⟨gb1, gb2⟩ := gS_b hx.nxw.2.1
  rcases hcc with ⟨rfl, rfl, rfl⟩ | ⟨t, ht, rfl, hs⟩
  · obtain ⟨fx, fb, fi, fw, fl, fv, ft, df, g, z, hN⟩ := hx.nd
    obtain ⟨z1, y1, y2, hN2⟩ := hm.nm
    exact pw0 hN.1 hN2.1 (by omega) (by omega) (fun _ hP => nd_badAct hX hN hP) (fun _ hP => nm_badAct hX hN2 hP) (hQ _ _ _ _ (WLD.go hC ⟨kn, sc, hx⟩ hm (by omega) (by omega)))
  · have hwd := hm.qwd ht
    refine ⟨_, 0, 0, hx.1.1, by omega, by omega, x_badAct hX hx.1 hx.2.1 ht (by omega) (fun h1 hs1 b1 => ?_)⟩
    have hm1 : WM h1 (w + 73) fs tl fp c (nI t) dd sb u L s := hm.ag (fun x y1 y2 => hs1 x (by omega))
    exact ⟨_, _, 0, 0, rfl, hm1.1.1, by omega, by omega, m_badAct hX hm1.1 hm1.2.1 hm1.q19 (hm1.qpg ht) hwd (fun h2 fs2 R => ⟨rfl, hQ _ _ _ _ (WLD.go hC (WXE.ag (hx.hut ht how hs1 b1 (by omega)) how (fun x y => R.2.2.2 x (by omega))) (hm1.mh R (by omega)) (by omega) (by omega))⟩)⟩
set_option maxHeartbeats 2000000 in
theorem pw_bad {a1 a2 : Int32} (hX : XC G ∧ TX l G) (hW : WLD h nx o w om j k n) (hj : j < 512) (hQ : ∀ (h2 : AH) (nx2 k2 n2 : Nat), WLD h2 nx2 o w om (j + 1) k2 n2 → Q h2 nx2 k2 n2) : PR l G o om i_X11_bad i_X12_bad [.int a1, .int a2] h nx k n Q := by
  obtain ⟨tl, c, vb, sb, q, fp, ah, da, dd, u, L, s, kn, sc, fs, hC, hx, hm, v1, v2, v3, v4⟩ := hW
  obtain ⟨rfl, how, htl, hu, hwl, hcc⟩ := id hC
  obtain ⟨gb1, gb2⟩ := gS_b hx.nxw.2.1
  rcases hcc with ⟨rfl, rfl, rfl⟩ | ⟨t, ht, rfl, hs⟩
  · obtain ⟨fx, fb, fi, fw, fl, fv, ft, df, g, z, hN⟩ := hx.nd
    obtain ⟨z1, y1, y2, hN2⟩ := hm.nm
    exact pw0 hN.1 hN2.1 (by omega) (by omega) (fun _ hP => nd_bad hX hN hP) (fun _ hP => nm_bad hX hN2 hP) (hQ _ _ _ _ (WLD.go hC ⟨kn, sc, hx⟩ hm (by omega) (by omega)))
  · have hwd := hm.qwd ht
    refine ⟨_, 0, 0, hx.1.1, by omega, by omega, x_bad hX hx.1 hx.2.1 ht (by omega) (fun h1 hs1 b1 => ?_)⟩
    have hm1 : WM h1 (w + 73) fs tl fp c (nI t) dd sb u L s := hm.ag (fun x y1 y2 => hs1 x (by omega))
    exact ⟨_, _, 0, 0, rfl, hm1.1.1, by omega, by omega, m_bad hX hm1.1 hm1.2.1 hm1.q19 (hm1.qpg ht) hwd (fun h2 fs2 R _ => ⟨rfl, hQ _ _ _ _ (WLD.go hC (WXE.ag (hx.hut ht how hs1 b1 (by omega)) how (fun x y => R.2.2.2 x (by omega))) (hm1.mh R (by omega)) (by omega) (by omega))⟩)⟩
set_option maxHeartbeats 2000000 in
theorem pw_fits {a1 a2 : Int32} (hX : XC G ∧ TX l G) (hW : WLD h nx o w om j k n) (hj : j < 512) (hQ : ∀ (h2 : AH) (nx2 k2 n2 : Nat), WLD h2 nx2 o w om (j + 1) k2 n2 → Q h2 nx2 k2 n2) : PR l G o om i_X11_fits i_X12_fits [.int a1, .int a2] h nx k n Q := by
  obtain ⟨tl, c, vb, sb, q, fp, ah, da, dd, u, L, s, kn, sc, fs, hC, hx, hm, v1, v2, v3, v4⟩ := hW
  obtain ⟨rfl, how, htl, hu, hwl, hcc⟩ := id hC
  obtain ⟨gb1, gb2⟩ := gS_b hx.nxw.2.1
  rcases hcc with ⟨rfl, rfl, rfl⟩ | ⟨t, ht, rfl, hs⟩
  · obtain ⟨fx, fb, fi, fw, fl, fv, ft, df, g, z, hN⟩ := hx.nd
    obtain ⟨z1, y1, y2, hN2⟩ := hm.nm
    exact pw0 hN.1 hN2.1 (by omega) (by omega) (fun _ hP => nd_fits hX hN hP) (fun _ hP => nm_fits hX hN2 hP) (hQ _ _ _ _ (WLD.go hC ⟨kn, sc, hx⟩ hm (by omega) (by omega)))
  · have hwd := hm.qwd ht
    refine ⟨_, 0, 0, hx.1.1, by omega, by omega, x_fits hX hx.1 hx.2.1 ht (by omega) hx.2.2.2.2.1 hwl (fun h1 hs1 b1 => ?_)⟩
    have hm1 : WM h1 (w + 73) fs tl fp c (nI t) dd sb u L s := hm.ag (fun x y1 y2 => hs1 x (by omega))
    exact ⟨_, _, 0, 0, rfl, hm1.1.1, by omega, by omega, m_fits hX hm1.1 hm1.2.1 hm1.q19 (hm1.qpg ht) hwd hm1.qlg hwl (fun h2 fs2 R => ⟨rfl, hQ _ _ _ _ (WLD.go hC (WXE.ag (hx.hut ht how hs1 b1 (by omega)) how (fun x y => R.2.2.2 x (by omega))) (hm1.mh R (by omega)) (by omega) (by omega))⟩)⟩
set_option maxHeartbeats 2000000 in
theorem pw_safe {a1 a2 a3 : Int32} (hX : XC G ∧ TX l G) (hW : WLD h nx o w om j k n) (hj : j < 512) (hQ : ∀ (h2 : AH) (nx2 k2 n2 : Nat), WLD h2 nx2 o w om (j + 1) k2 n2 → Q h2 nx2 k2 n2) : PR l G o om i_X11_safe i_X12_safe [.int a1, .int a2, .int a3] h nx k n Q := by
  obtain ⟨tl, c, vb, sb, q, fp, ah, da, dd, u, L, s, kn, sc, fs, hC, hx, hm, v1, v2, v3, v4⟩ := hW
  obtain ⟨rfl, how, htl, hu, hwl, hcc⟩ := id hC
  obtain ⟨gb1, gb2⟩ := gS_b hx.nxw.2.1
  rcases hcc with ⟨rfl, rfl, rfl⟩ | ⟨t, ht, rfl, hs⟩
  · obtain ⟨fx, fb, fi, fw, fl, fv, ft, df, g, z, hN⟩ := hx.nd
    obtain ⟨z1, y1, y2, hN2⟩ := hm.nm
    exact pw0 hN.1 hN2.1 (by omega) (by omega) (fun _ hP => nd_safe hX hN hP) (fun _ hP => nm_safe hX hN2 hP) (hQ _ _ _ _ (WLD.go hC ⟨kn, sc, hx⟩ hm (by omega) (by omega)))
  · have hwd := hm.qwd ht
    refine ⟨_, 0, 0, hx.1.1, by omega, by omega, x_safe hX hx.1 hx.2.1 (by omega) (fun h1 hs1 b1 => ?_)⟩
    have hm1 : WM h1 (w + 73) fs tl fp c (nI t) dd sb u L s := hm.ag (fun x y1 y2 => hs1 x (by omega))
    exact ⟨_, _, 0, 0, rfl, hm1.1.1, by omega, by omega, m_safe hX hm1.1 hm1.2.1 hm1.qps (fun h2 fs2 R => ⟨rfl, hQ _ _ _ _ (WLD.go hC (WXE.ag (hx.hut ht how hs1 b1 (by omega)) how (fun x y => R.2.2.2 x (by omega))) (hm1.mh R (by omega)) (by omega) (by omega))⟩)⟩
set_option maxHeartbeats 2000000 in
theorem pw_suspects {a1 : Int32} (hX : XC G ∧ TX l G) (hW : WLD h nx o w om j k n) (hj : j < 512) (hQ : ∀ (h2 : AH) (nx2 k2 n2 : Nat), WLD h2 nx2 o w om (j + 1) k2 n2 → Q h2 nx2 k2 n2) : PR l G o om i_X11_suspects i_X12_suspects [.int a1] h nx k n Q := by
  obtain ⟨tl, c, vb, sb, q, fp, ah, da, dd, u, L, s, kn, sc, fs, hC, hx, hm, v1, v2, v3, v4⟩ := hW
  obtain ⟨rfl, how, htl, hu, hwl, hcc⟩ := id hC
  obtain ⟨gb1, gb2⟩ := gS_b hx.nxw.2.1
  rcases hcc with ⟨rfl, rfl, rfl⟩ | ⟨t, ht, rfl, hs⟩
  · obtain ⟨fx, fb, fi, fw, fl, fv, ft, df, g, z, hN⟩ := hx.nd
    obtain ⟨z1, y1, y2, hN2⟩ := hm.nm
    exact pw0 hN.1 hN2.1 (by omega) (by omega) (fun _ hP => nd_suspects hX hN hP) (fun _ hP => nm_suspects hX hN2 hP) (hQ _ _ _ _ (WLD.go hC ⟨kn, sc, hx⟩ hm (by omega) (by omega)))
  · have hwd := hm.qwd ht
    refine ⟨_, 0, 0, hx.1.1, by omega, by omega, x_suspects hX hx.1 hx.2.1 ht (by omega) hx.2.2.2.2.1 hwl (fun h1 hs1 b1 => ?_)⟩
    have hm1 : WM h1 (w + 73) fs tl fp c (nI t) dd sb u L s := hm.ag (fun x y1 y2 => hs1 x (by omega))
    exact ⟨_, _, 0, 0, rfl, hm1.1.1, by omega, by omega, m_suspects hX hm1.1 hm1.2.1 hm1.q19 (hm1.qpg ht) hwd hm1.qlg hwl (fun h2 fs2 R => ⟨rfl, hQ _ _ _ _ (WLD.go hC (WXE.ag (hx.hut ht how hs1 b1 (by omega)) how (fun x y => R.2.2.2 x (by omega))) (hm1.mco R (by omega)) (by omega) (by omega))⟩)⟩
set_option maxHeartbeats 2000000 in
theorem pw_next {a1 : Int32} (hX : XC G ∧ TX l G) (hW : WLD h nx o w om j k n) (hj : j < 512) (hQ : ∀ (h2 : AH) (nx2 k2 n2 : Nat), WLD h2 nx2 o w om (j + 1) k2 n2 → Q h2 nx2 k2 n2) : PR l G o om i_X11_next i_X12_next [.int a1] h nx k n Q := by
  obtain ⟨tl, c, vb, sb, q, fp, ah, da, dd, u, L, s, kn, sc, fs, hC, hx, hm, v1, v2, v3, v4⟩ := hW
  obtain ⟨rfl, how, htl, hu, hwl, hcc⟩ := id hC
  obtain ⟨gb1, gb2⟩ := gS_b hx.nxw.2.1
  rcases hcc with ⟨rfl, rfl, rfl⟩ | ⟨t, ht, rfl, hs⟩
  · obtain ⟨fx, fb, fi, fw, fl, fv, ft, df, g, z, hN⟩ := hx.nd
    obtain ⟨z1, y1, y2, hN2⟩ := hm.nm
    exact pw0 hN.1 hN2.1 (by omega) (by omega) (fun _ hP => nd_next hX hN hP) (fun _ hP => nm_next hX hN2 hP) (hQ _ _ _ _ (WLD.go hC ⟨kn, sc, hx⟩ hm (by omega) (by omega)))
  · have hwd := hm.qwd ht
    refine ⟨_, 0, 0, hx.1.1, by omega, by omega, x_next hX hx.1 hx.2.1 ht (by omega) hx.2.2.2.2.1 hwl (fun h1 hs1 b1 e1 => ?_)⟩
    have hm1 : WM h1 (w + 73) fs tl fp c (nI t) dd sb u L s := hm.ag (fun x y1 y2 => hs1 x (by omega))
    exact ⟨_, _, 0, 0, rfl, hm1.1.1, by omega, by omega, m_next hX hm1.1 hm1.2.1 hm1.q19 (hm1.qpg ht) hwd hm1.qlg hwl (fun h2 fs2 R => ⟨rfl, hQ _ _ _ _ (WLD.go hC (WXE.ag (hx.nxt ht how hs1 b1 (by omega) e1) how (fun x y => R.2.2.2 x (by omega))) (hm1.mco R (by omega)) (by omega) (by omega))⟩)⟩
set_option maxHeartbeats 2000000 in
theorem pw_plan {a1 a2 a3 : Int32} (hX : XC G ∧ TX l G) (hW : WLD h nx o w om j k n) (hj : j < 512) (hQ : ∀ (h2 : AH) (nx2 k2 n2 : Nat), WLD h2 nx2 o w om (j + 1) k2 n2 → Q h2 nx2 k2 n2) : PR l G o om i_X11_plan i_X12_plan [.int a1, .int a2, .int a3] h nx k n Q := by
  obtain ⟨tl, c, vb, sb, q, fp, ah, da, dd, u, L, s, kn, sc, fs, hC, hx, hm, v1, v2, v3, v4⟩ := hW
  obtain ⟨rfl, how, htl, hu, hwl, hcc⟩ := id hC
  obtain ⟨gb1, gb2⟩ := gS_b hx.nxw.2.1
  rcases hcc with ⟨rfl, rfl, rfl⟩ | ⟨t, ht, rfl, hs⟩
  · obtain ⟨fx, fb, fi, fw, fl, fv, ft, df, g, z, hN⟩ := hx.nd
    obtain ⟨z1, y1, y2, hN2⟩ := hm.nm
    exact pw0 hN.1 hN2.1 (by omega) (by omega) (fun _ hP => nd_plan hX hN hP) (fun _ hP => nm_plan hX hN2 hP) (hQ _ _ _ _ (WLD.go hC ⟨kn, sc, hx⟩ hm (by omega) (by omega)))
  · refine ⟨_, 0, 0, hx.1.1, by omega, by omega, x_plan hX hx.1 hx.2.1 hx.2.2.2.2.2.2.1 (by omega) (fun h1 hs1 b1 g1 _ => ?_)⟩
    have hm1 : WM h1 (w + 73) fs tl fp c (nI t) dd sb u L s := hm.ag (fun x y1 y2 => hs1 x (by omega))
    exact ⟨_, _, 0, 0, rfl, hm1.1.1, by omega, by omega, m_plan hX hm1.1 hm1.2.1 hm1.qps (fun h2 fs2 R _ => ⟨rfl, hQ _ _ _ _ (WLD.go hC (WXE.ag (hx.pln ht how hs1 b1 (by omega) g1) how (fun x y => R.2.2.2 x (by omega))) (hm1.mpn R (by omega)) (by omega) (by omega))⟩)⟩
set_option maxHeartbeats 2000000 in
theorem pw_stage {a1 a2 a3 a4 : Int32} (hX : XC G ∧ TX l G) (hW : WLD h nx o w om j k n) (hj : j < 512) (hQ : ∀ (h2 : AH) (nx2 k2 n2 : Nat), WLD h2 nx2 o w om (j + 1) k2 n2 → Q h2 nx2 k2 n2) : PR l G o om i_X11_stage i_X12_stage [.int a1, .int a2, .int a3, .int a4] h nx k n Q := by
  obtain ⟨tl, c, vb, sb, q, fp, ah, da, dd, u, L, s, kn, sc, fs, hC, hx, hm, v1, v2, v3, v4⟩ := hW
  obtain ⟨rfl, how, htl, hu, hwl, hcc⟩ := id hC
  obtain ⟨gb1, gb2⟩ := gS_b hx.nxw.2.1
  rcases hcc with ⟨rfl, rfl, rfl⟩ | ⟨t, ht, rfl, hs⟩
  · obtain ⟨fx, fb, fi, fw, fl, fv, ft, df, g, z, hN⟩ := hx.nd
    obtain ⟨z1, y1, y2, hN2⟩ := hm.nm
    exact pw0 hN.1 hN2.1 (by omega) (by omega) (fun _ hP => nd_stage hX hN hP) (fun _ hP => nm_stage hX hN2 hP) (hQ _ _ _ _ (WLD.go hC ⟨kn, sc, hx⟩ hm (by omega) (by omega)))
  · refine ⟨_, 0, 0, hx.1.1, by omega, by omega, x_stage hX hx.1 hx.2.1 hx.2.2.2.2.2.2.1 (by omega) (fun h1 hs1 b1 g1 => ?_)⟩
    have hm1 : WM h1 (w + 73) fs tl fp c (nI t) dd sb u L s := hm.ag (fun x y1 y2 => hs1 x (by omega))
    exact ⟨_, _, 0, 0, rfl, hm1.1.1, by omega, by omega, m_stage hX hm1.1 hm1.2.1 hm1.qps (fun h2 fs2 R => ⟨rfl, hQ _ _ _ _ (WLD.go hC (WXE.ag (hx.pln ht how hs1 b1 (by omega) g1) how (fun x y => R.2.2.2 x (by omega))) (hm1.mpn R (by omega)) (by omega) (by omega))⟩)⟩
set_option maxHeartbeats 2000000 in
theorem pw_hand {a1 : Int32} (hX : XC G ∧ TX l G) (hW : WLD h nx o w om j k n) (hj : j < 512) (hQ : ∀ (h2 : AH) (nx2 k2 n2 : Nat), WLD h2 nx2 o w om (j + 1) k2 n2 → Q h2 nx2 k2 n2) : PR l G o om i_X11_hand i_X12_hand [.int a1] h nx k n Q := by
  obtain ⟨tl, c, vb, sb, q, fp, ah, da, dd, u, L, s, kn, sc, fs, hC, hx, hm, v1, v2, v3, v4⟩ := hW
  obtain ⟨rfl, how, htl, hu, hwl, hcc⟩ := id hC
  obtain ⟨gb1, gb2⟩ := gS_b hx.nxw.2.1
  rcases hcc with ⟨rfl, rfl, rfl⟩ | ⟨t, ht, rfl, hs⟩
  · obtain ⟨fx, fb, fi, fw, fl, fv, ft, df, g, z, hN⟩ := hx.nd
    obtain ⟨z1, y1, y2, hN2⟩ := hm.nm
    exact pw0 hN.1 hN2.1 (by omega) (by omega) (fun _ hP => nd_hand hX hN hP) (fun _ hP => nm_hand hX hN2 hP) (hQ _ _ _ _ (WLD.go hC ⟨kn, sc, hx⟩ hm (by omega) (by omega)))
  · have hwd := hm.qwd ht
    exact ⟨_, 0, 0, hx.1.1, by omega, by omega, x_hand hX hx.1 ht (hx.qhw ht) hs ⟨_, _, 0, 0, rfl, hm.1.1, by omega, by omega, m_hand hX hm.1 hm.2.1 hm.q19 (hm.qpg ht) hwd (hm.qhw ht).1 hs (fun h2 fs2 R => ⟨rfl, hQ _ _ _ _ (WLD.go hC (WXE.ag ⟨kn, sc, hx⟩ how (fun x y => R.2.2.2 x (by omega))) (hm.mh R (by omega)) (by omega) (by omega))⟩)⟩⟩
set_option maxHeartbeats 2000000 in
theorem pw_singles (hX : XC G ∧ TX l G) (hW : WLD h nx o w om j k n) (hj : j < 512) (hQ : ∀ (h2 : AH) (nx2 k2 n2 : Nat), WLD h2 nx2 o w om (j + 1) k2 n2 → Q h2 nx2 k2 n2) : PR l G o om i_X11_singles i_X12_singles [] h nx k n Q := by
  obtain ⟨tl, c, vb, sb, q, fp, ah, da, dd, u, L, s, kn, sc, fs, hC, hx, hm, v1, v2, v3, v4⟩ := hW
  obtain ⟨rfl, how, htl, hu, hwl, hcc⟩ := id hC
  obtain ⟨gb1, gb2⟩ := gS_b hx.nxw.2.1
  rcases hcc with ⟨rfl, rfl, rfl⟩ | ⟨t, ht, rfl, hs⟩
  · obtain ⟨fx, fb, fi, fw, fl, fv, ft, df, g, z, hN⟩ := hx.nd
    obtain ⟨z1, y1, y2, hN2⟩ := hm.nm
    exact pw0 hN.1 hN2.1 (by omega) (by omega) (fun _ hP => nd_singles hX hN hP) (fun _ hP => nm_singles hX hN2 hP) (hQ _ _ _ _ (WLD.go hC ⟨kn, sc, hx⟩ hm (by omega) (by omega)))
  · have hwd := hm.qwd ht
    have hda := (hx.nxw.2.2.2.1 t ht).1
    obtain ⟨y1, y2, y3, y4, y5⟩ := hx.qff ht
    refine ⟨_, 0, 0, hx.1.1, by omega, by omega, x_singles hX hx.1 hx.2.1 ht (by omega) y1 y2 (fun h1 hs1 b1 p1 => ?_)⟩
    have hm1 : WM h1 (w + 73) fs tl fp c (nI t) dd sb u L s := hm.ag (fun x z1 z2 => hs1 x (by omega) (by omega))
    exact ⟨_, _, 0, 0, rfl, hm1.1.1, by omega, by omega, m_singles hX hm1.1 hm1.2.1 hm1.q19 (hm1.qpg ht) hwd (fun h2 fs2 R => ⟨rfl, hQ _ _ _ _ (WLD.go hC (WXE.ag (hx.fnd ht how (fun x z1 z2 => hs1 x z1 (by omega)) b1 (by omega) p1 (y3.ag (fun x z1 z2 => hs1 x (by omega) (by omega)))) how (fun x y => R.2.2.2 x (by omega))) (hm1.mh R (by omega)) (by omega) (by omega))⟩)⟩
set_option maxHeartbeats 2000000 in
theorem pw_pairs {a1 : Int32} (hX : XC G ∧ TX l G) (hW : WLD h nx o w om j k n) (hj : j < 512) (hQ : ∀ (h2 : AH) (nx2 k2 n2 : Nat), WLD h2 nx2 o w om (j + 1) k2 n2 → Q h2 nx2 k2 n2) : PR l G o om i_X11_pairs i_X12_pairs [.int a1] h nx k n Q := by
  obtain ⟨tl, c, vb, sb, q, fp, ah, da, dd, u, L, s, kn, sc, fs, hC, hx, hm, v1, v2, v3, v4⟩ := hW
  obtain ⟨rfl, how, htl, hu, hwl, hcc⟩ := id hC
  obtain ⟨gb1, gb2⟩ := gS_b hx.nxw.2.1
  rcases hcc with ⟨rfl, rfl, rfl⟩ | ⟨t, ht, rfl, hs⟩
  · obtain ⟨fx, fb, fi, fw, fl, fv, ft, df, g, z, hN⟩ := hx.nd
    obtain ⟨z1, y1, y2, hN2⟩ := hm.nm
    exact pw0 hN.1 hN2.1 (by omega) (by omega) (fun _ hP => nd_pairs hX hN hP) (fun _ hP => nm_pairs hX hN2 hP) (hQ _ _ _ _ (WLD.go hC ⟨kn, sc, hx⟩ hm (by omega) (by omega)))
  · have hwd := hm.qwd ht
    have hda := (hx.nxw.2.2.2.1 t ht).1
    obtain ⟨y1, y2, y3, y4, y5⟩ := hx.qff ht
    refine ⟨_, 0, 0, hx.1.1, by omega, by omega, x_pairs hX hx.1 hx.2.1 ht (by omega) y1 y2 y3 (fun h1 hs1 b1 p1 p2 => ?_)⟩
    have hm1 : WM h1 (w + 73) fs tl fp c (nI t) dd sb u L s := hm.ag (fun x z1 z2 => hs1 x (by omega) (by omega))
    exact ⟨_, _, 0, 0, rfl, hm1.1.1, by omega, by omega, m_pairs hX hm1.1 hm1.2.1 hm1.q19 (hm1.qpg ht) hwd (fun h2 fs2 R => ⟨rfl, hQ _ _ _ _ (WLD.go hC (WXE.ag (hx.fnd ht how hs1 b1 (by omega) p1 p2) how (fun x y => R.2.2.2 x (by omega))) (hm1.mhp R (by omega)) (by omega) (by omega))⟩)⟩
set_option maxHeartbeats 2000000 in
theorem pw_pair {a1 a2 : Int32} (hX : XC G ∧ TX l G) (hW : WLD h nx o w om j k n) (hj : j < 512) (hQ : ∀ (h2 : AH) (nx2 k2 n2 : Nat), WLD h2 nx2 o w om (j + 1) k2 n2 → Q h2 nx2 k2 n2) : PR l G o om i_X11_pair i_X12_pair [.int a1, .int a2] h nx k n Q := by
  obtain ⟨tl, c, vb, sb, q, fp, ah, da, dd, u, L, s, kn, sc, fs, hC, hx, hm, v1, v2, v3, v4⟩ := hW
  obtain ⟨rfl, how, htl, hu, hwl, hcc⟩ := id hC
  obtain ⟨gb1, gb2⟩ := gS_b hx.nxw.2.1
  rcases hcc with ⟨rfl, rfl, rfl⟩ | ⟨t, ht, rfl, hs⟩
  · obtain ⟨fx, fb, fi, fw, fl, fv, ft, df, g, z, hN⟩ := hx.nd
    obtain ⟨z1, y1, y2, hN2⟩ := hm.nm
    exact pw0 hN.1 hN2.1 (by omega) (by omega) (fun _ hP => nd_pair hX hN hP) (fun _ hP => nm_pair hX hN2 hP) (hQ _ _ _ _ (WLD.go hC ⟨kn, sc, hx⟩ hm (by omega) (by omega)))
  · have hwd := hm.qwd ht
    have hda := (hx.nxw.2.2.2.1 t ht).1
    obtain ⟨y1, y2, y3, y4, y5⟩ := hx.qff ht
    refine ⟨_, 0, 0, hx.1.1, by omega, by omega, x_pair hX hx.1 hx.2.1 ht (by omega) y1 y2 y3 (fun h1 hs1 b1 p1 p2 => ?_)⟩
    have hm1 : WM h1 (w + 73) fs tl fp c (nI t) dd sb u L s := hm.ag (fun x z1 z2 => hs1 x (by omega) (by omega))
    exact ⟨_, _, 0, 0, rfl, hm1.1.1, by omega, by omega, m_pair hX hm1.1 hm1.2.1 hm1.q19 (hm1.qpg ht) hwd (fun h2 fs2 R => ⟨rfl, hQ _ _ _ _ (WLD.go hC (WXE.ag (hx.fnd ht how hs1 b1 (by omega) p1 p2) how (fun x y => R.2.2.2 x (by omega))) (hm1.mhp R (by omega)) (by omega) (by omega))⟩)⟩
set_option maxHeartbeats 2000000 in
theorem pw_least {a1 : Int32} (hX : XC G ∧ TX l G) (hW : WLD h nx o w om j k n) (hj : j < 512) (hQ : ∀ (h2 : AH) (nx2 k2 n2 : Nat), WLD h2 nx2 o w om (j + 1) k2 n2 → Q h2 nx2 k2 n2) : PR l G o om i_X11_least i_X12_least [.int a1] h nx k n Q := by
  obtain ⟨tl, c, vb, sb, q, fp, ah, da, dd, u, L, s, kn, sc, fs, hC, hx, hm, v1, v2, v3, v4⟩ := hW
  obtain ⟨rfl, how, htl, hu, hwl, hcc⟩ := id hC
  obtain ⟨gb1, gb2⟩ := gS_b hx.nxw.2.1
  rcases hcc with ⟨rfl, rfl, rfl⟩ | ⟨t, ht, rfl, hs⟩
  · obtain ⟨fx, fb, fi, fw, fl, fv, ft, df, g, z, hN⟩ := hx.nd
    obtain ⟨z1, y1, y2, hN2⟩ := hm.nm
    exact pw0 hN.1 hN2.1 (by omega) (by omega) (fun _ hP => nd_least hX hN hP) (fun _ hP => nm_least hX hN2 hP) (hQ _ _ _ _ (WLD.go hC ⟨kn, sc, hx⟩ hm (by omega) (by omega)))
  · have hwd := hm.qwd ht
    have hda := (hx.nxw.2.2.2.1 t ht).1
    obtain ⟨y1, y2, y3, y4, y5⟩ := hx.qff ht
    cases hvf : vFx (dK (dd t)) (dR (dd t)) (dow (dd t)) a1 with
    | false =>
      exact ⟨_, 0, 0, hx.1.1, by omega, by omega, x_leastN hX hx.1 ht hvf ⟨_, _, 0, 0, rfl, hm.1.1, by omega, by omega, m_least hX hm.1 hm.2.1 hm.q19 (hm.qpg ht) hwd hm.qst (by omega) (fun h2 fs2 R e2 => ⟨rfl, hQ _ _ _ _ (WLD.go hC (WXE.ag ⟨kn, sc, hx⟩ how (fun x y => R.2.2.2 x (by omega))) (hm.mtr R (by omega) e2) (by omega) (by omega))⟩)⟩⟩
    | true =>
      obtain ⟨i, hi, ei⟩ := (vFx_ix hwd).mp hvf
      obtain ⟨c1, c2⟩ := tcap_ok (kn := kn t) hwd hi hx.nxw.2.1
      obtain ⟨c3, c4⟩ := gS_mono c2
      obtain ⟨c5, c6⟩ := gS_b c1
      refine ⟨_, _, _, hx.1.1, ?_, ?_, x_leastY hX hx.1 hx.2.1 hx.2.2.1 hx.2.2.2.1 y1 y4 ht (by omega) hi ei (fun h1 nx1 n1 b1 b2 b3 b4 hs1 => ?_)⟩
      · omega
      · omega
      have hm1 : WM h1 (w + 73) fs tl fp c (nI t) dd sb u L s := hm.ag (fun x z1 z2 => hs1 x (Or.inr (Or.inl (by omega))) (by omega))
      have hd : ∀ y, da t ≤ y → y < da t + 24 ∨ y = da t + 26 → h1 y = h y := fun y p1 p2 => hs1 y (Or.inr (Or.inr ⟨t, ht, p1, by omega⟩)) (by omega)
      exact ⟨_, _, 0, 0, rfl, hm1.1.1, by omega, by omega, m_least hX hm1.1 hm1.2.1 hm1.q19 (hm1.qpg ht) hwd hm1.qst (by omega) (fun h2 fs2 R e2 => ⟨rfl, hQ _ _ _ _ (WLD.go hC (WXE.ag (hx.lst ht how (by omega) (by omega) hs1 b1 b2 b3 ⟨y1.ag (hd _ (by omega) (by omega)), y2.ag (hd _ (by omega) (by omega)), y3.ag (fun x p1 p2 => hd x (by omega) (by omega)), b4, y5.ag (hd _ (by omega) (by omega))⟩) how (fun x y => R.2.2.2 x (by omega))) (hm1.mtr R (by omega) e2) (by omega) (by omega))⟩)⟩
set_option maxHeartbeats 2000000 in
theorem pw_leastAct {a1 a2 : Int32} (hX : XC G ∧ TX l G) (hW : WLD h nx o w om j k n) (hj : j < 512) (hQ : ∀ (h2 : AH) (nx2 k2 n2 : Nat), WLD h2 nx2 o w om (j + 1) k2 n2 → Q h2 nx2 k2 n2) : PR l G o om i_X11_leastAct i_X12_leastAct [.int a1, .int a2] h nx k n Q := by
  obtain ⟨tl, c, vb, sb, q, fp, ah, da, dd, u, L, s, kn, sc, fs, hC, hx, hm, v1, v2, v3, v4⟩ := hW
  obtain ⟨rfl, how, htl, hu, hwl, hcc⟩ := id hC
  obtain ⟨gb1, gb2⟩ := gS_b hx.nxw.2.1
  rcases hcc with ⟨rfl, rfl, rfl⟩ | ⟨t, ht, rfl, hs⟩
  · obtain ⟨fx, fb, fi, fw, fl, fv, ft, df, g, z, hN⟩ := hx.nd
    obtain ⟨z1, y1, y2, hN2⟩ := hm.nm
    exact pw0 hN.1 hN2.1 (by omega) (by omega) (fun _ hP => nd_leastAct hX hN hP) (fun _ hP => nm_leastAct hX hN2 hP) (hQ _ _ _ _ (WLD.go hC ⟨kn, sc, hx⟩ hm (by omega) (by omega)))
  · have hwd := hm.qwd ht
    have hda := (hx.nxw.2.2.2.1 t ht).1
    obtain ⟨y1, y2, y3, y4, y5⟩ := hx.qff ht
    cases hvf : vFx (dK (dd t)) (dR (dd t)) (dow (dd t)) a1 with
    | false =>
      exact ⟨_, 0, 0, hx.1.1, by omega, by omega, x_leastActN hX hx.1 ht hvf ⟨_, _, 0, 0, rfl, hm.1.1, by omega, by omega, m_leastAct hX hm.1 hm.2.1 hm.q19 (hm.qpg ht) hwd hm.qst (by omega) (fun h2 fs2 R e2 => ⟨rfl, hQ _ _ _ _ (WLD.go hC (WXE.ag ⟨kn, sc, hx⟩ how (fun x y => R.2.2.2 x (by omega))) (hm.mtr R (by omega) e2) (by omega) (by omega))⟩)⟩⟩
    | true =>
      obtain ⟨i, hi, ei⟩ := (vFx_ix hwd).mp hvf
      obtain ⟨c1, c2⟩ := tcap_ok (kn := kn t) hwd hi hx.nxw.2.1
      obtain ⟨c3, c4⟩ := gS_mono c2
      obtain ⟨c5, c6⟩ := gS_b c1
      refine ⟨_, _, _, hx.1.1, ?_, ?_, x_leastActY hX hx.1 hx.2.1 hx.2.2.1 hx.2.2.2.1 y1 y4 ht (by omega) hi ei (fun h1 nx1 n1 b1 b2 b3 b4 hs1 => ?_)⟩
      · omega
      · omega
      have hm1 : WM h1 (w + 73) fs tl fp c (nI t) dd sb u L s := hm.ag (fun x z1 z2 => hs1 x (Or.inr (Or.inl (by omega))) (by omega))
      have hd : ∀ y, da t ≤ y → y < da t + 24 ∨ y = da t + 26 → h1 y = h y := fun y p1 p2 => hs1 y (Or.inr (Or.inr ⟨t, ht, p1, by omega⟩)) (by omega)
      exact ⟨_, _, 0, 0, rfl, hm1.1.1, by omega, by omega, m_leastAct hX hm1.1 hm1.2.1 hm1.q19 (hm1.qpg ht) hwd hm1.qst (by omega) (fun h2 fs2 R e2 => ⟨rfl, hQ _ _ _ _ (WLD.go hC (WXE.ag (hx.lst ht how (by omega) (by omega) hs1 b1 b2 b3 ⟨y1.ag (hd _ (by omega) (by omega)), y2.ag (hd _ (by omega) (by omega)), y3.ag (fun x p1 p2 => hd x (by omega) (by omega)), b4, y5.ag (hd _ (by omega) (by omega))⟩) how (fun x y => R.2.2.2 x (by omega))) (hm1.mtr R (by omega) e2) (by omega) (by omega))⟩)⟩
set_option maxHeartbeats 2000000 in
theorem pw_hidden (hX : XC G ∧ TX l G) (hW : WLD h nx o w om j k n) (hj : j < 512) (hQ : ∀ (h2 : AH) (nx2 k2 n2 : Nat), WLD h2 nx2 o w om (j + 1) k2 n2 → Q h2 nx2 k2 n2) : PR l G o om i_X11_hidden i_X12_hidden [] h nx k n Q := by
  obtain ⟨tl, c, vb, sb, q, fp, ah, da, dd, u, L, s, kn, sc, fs, hC, hx, hm, v1, v2, v3, v4⟩ := hW
  obtain ⟨rfl, how, htl, hu, hwl, hcc⟩ := id hC
  obtain ⟨gb1, gb2⟩ := gS_b hx.nxw.2.1
  rcases hcc with ⟨rfl, rfl, rfl⟩ | ⟨t, ht, rfl, hs⟩
  · obtain ⟨fx, fb, fi, fw, fl, fv, ft, df, g, z, hN⟩ := hx.nd
    obtain ⟨z1, y1, y2, hN2⟩ := hm.nm
    exact ⟨_, 0, 0, hN.1, by omega, by omega, nd_hidden hX hN ⟨_, _, 0, 0, rfl, hN2.1, by omega, by omega, nm_hidden hX hN2 ⟨rfl, hQ _ _ _ _ (WLD.go hC (WXE.ag ⟨kn, sc, hx⟩ how (fun x hx => uph_ne (by omega))) hm.su0 (by omega) (by omega))⟩⟩⟩
  · have hwd := hm.qwd ht
    have hda := (hx.nxw.2.2.2.1 t ht).1
    have hc4 := hx.nxw.2.2.1
    obtain ⟨y1, y2, y3, y4, y5⟩ := hx.qff ht
    obtain ⟨c1, c2⟩ := capN_ok (kn := kn t) hwd hx.nxw.2.1 _ (Nat.le_refl _)
    obtain ⟨c3, c4⟩ := gS_mono c2
    obtain ⟨c5, c6⟩ := gS_b c1
    refine ⟨_, _, _, hx.1.1, ?_, ?_, x_hidden hX hx.1 hx.2.1 hx.2.2.1 hx.2.2.2.1 y1 y4 ht (by omega) (fun h1 nx1 n1 b1 b2 b3 b4 hs1 => ?_)⟩
    · omega
    · omega
    have hm1 : WM h1 (w + 73) fs tl fp c (nI t) dd sb u L s := hm.ag (fun x z1 z2 => hs1 x (Or.inr (Or.inl (by omega))) (by omega))
    have hd : ∀ y, da t ≤ y → y < da t + 24 ∨ y = da t + 26 → h1 y = h y := fun y p1 p2 => hs1 y (Or.inr (Or.inr ⟨t, ht, p1, by omega⟩)) (by omega)
    exact ⟨_, _, 0, 0, rfl, hm1.1.1, by omega, by omega, m_hidden hX hm1.1 hm1.2.1 hm1.q19 (hm1.qpg ht) hwd hm1.qst (by omega) (hm1.qhw ht).2 (fun h2 fs2 R rk e2 => ⟨rfl, hQ _ _ _ _ (WLD.go hC (WXE.ag (hx.lst ht how (by omega) (by omega) hs1 b1 b2 b3 ⟨y1.ag (hd _ (by omega) (by omega)), y2.ag (hd _ (by omega) (by omega)), y3.ag (fun x p1 p2 => hd x (by omega) (by omega)), b4, y5.ag (hd _ (by omega) (by omega))⟩) how (fun x y => R.2.2.2 x (by omega))) (hm1.msu R ht hc4 e2 rk) (by omega) (by omega))⟩)⟩
set_option maxHeartbeats 2000000 in
theorem pw_suite (hX : XC G ∧ TX l G) (hW : WLD h nx o w om j k n) (hj : j < 512) (hQ : ∀ (h2 : AH) (nx2 k2 n2 : Nat), WLD h2 nx2 o w om (j + 1) k2 n2 → Q h2 nx2 k2 n2) : PR l G o om i_X11_suite i_X12_suite [] h nx k n Q := by
  obtain ⟨tl, c, vb, sb, q, fp, ah, da, dd, u, L, s, kn, sc, fs, hC, hx, hm, v1, v2, v3, v4⟩ := hW
  obtain ⟨rfl, how, htl, hu, hwl, hcc⟩ := id hC
  obtain ⟨gb1, gb2⟩ := gS_b hx.nxw.2.1
  rcases hcc with ⟨rfl, rfl, rfl⟩ | ⟨t, ht, rfl, hs⟩
  · obtain ⟨fx, fb, fi, fw, fl, fv, ft, df, g, z, hN⟩ := hx.nd
    obtain ⟨z1, y1, y2, hN2⟩ := hm.nm
    have hx2 := hx.su0 hN how
    have hm2 : WM (uph h (w + 21) (.inr (1, fi.set 6 (.int 0)))) (w + 73) fs tl fp 0 (-1) dd sb u [] s := hm.ag (fun x y1 y2 => uph_ne (by omega))
    obtain ⟨z3, y3, y4, hN3⟩ := hm2.nm
    exact ⟨_, 0, 0, hN.1, by omega, by omega, nd_suite hX hN ⟨_, _, 0, 0, rfl, hN3.1, by omega, by omega, nm_suite hX hN3 ⟨rfl, hQ _ _ _ _ (WLD.go hC (WXE.ag ⟨kn, sc, hx2⟩ how (fun x hx => uph_ne (by omega))) hm2.su0 (by omega) (by omega))⟩⟩⟩
  · have hwd := hm.qwd ht
    have hda := (hx.nxw.2.2.2.1 t ht).1
    have hc4 := hx.nxw.2.2.1
    obtain ⟨y1, y2, y3, y4, y5⟩ := hx.qff ht
    obtain ⟨c1, c2⟩ := capS_ok (kn := kn t) (sc := sc t) hwd hx.nxw.2.1
    obtain ⟨c3, c4⟩ := gS_mono c2
    obtain ⟨c5, c6⟩ := gS_b c1
    refine ⟨_, _, _, hx.1.1, ?_, ?_, x_suite hX hx.1 hx.2.1 hx.2.2.1 hx.2.2.2.1 y1 y4 y5 ht (by omega) (fun h1 nx1 kn1 n1 b1 b2 b3 b4 b5 b6 hs1 q1 q2 q3 => ?_)⟩
    · omega
    · omega
    have hm1 : WM h1 (w + 73) fs tl fp c (nI t) dd sb u L s := hm.ag (fun x z1 z2 => hs1 x (Or.inr (Or.inl (by omega))) (by omega))
    exact ⟨_, _, 0, 0, rfl, hm1.1.1, by omega, by omega, m_suite hX hm1.1 hm1.2.1 hm1.q19 (hm1.qpg ht) hwd hm1.qst (by omega) (hm1.qhw ht).2 (fun h2 fs2 R rk e2 => ⟨rfl, hQ _ _ _ _ (WLD.go hC (WXE.ag (hx.lst ht how (by omega) (by omega) hs1 b1 b2 b3 ⟨b4, y2.ag q1, y3.ag (fun x p1 p2 => (show x = da t + 22 ∨ x = da t + 23 by omega).elim (fun e => by rw [e]; exact q2) (fun e => by rw [e]; exact q3)), b5, b6⟩) how (fun x y => R.2.2.2 x (by omega))) (hm1.msu R ht hc4 e2 rk) (by omega) (by omega))⟩)⟩
set_option maxHeartbeats 2000000 in
theorem pw_suiteAct {a1 a2 : Int32} (hX : XC G ∧ TX l G) (hW : WLD h nx o w om j k n) (hj : j < 512) (hQ : ∀ (h2 : AH) (nx2 k2 n2 : Nat), WLD h2 nx2 o w om (j + 1) k2 n2 → Q h2 nx2 k2 n2) : PR l G o om i_X11_suiteAct i_X12_suiteAct [.int a1, .int a2] h nx k n Q := by
  obtain ⟨tl, c, vb, sb, q, fp, ah, da, dd, u, L, s, kn, sc, fs, hC, hx, hm, v1, v2, v3, v4⟩ := hW
  obtain ⟨rfl, how, htl, hu, hwl, hcc⟩ := id hC
  obtain ⟨gb1, gb2⟩ := gS_b hx.nxw.2.1
  rcases hcc with ⟨rfl, rfl, rfl⟩ | ⟨t, ht, rfl, hs⟩
  · obtain ⟨fx, fb, fi, fw, fl, fv, ft, df, g, z, hN⟩ := hx.nd
    obtain ⟨z1, y1, y2, hN2⟩ := hm.nm
    have hx2 := hx.su0 hN how
    have hm2 : WM (uph h (w + 21) (.inr (1, fi.set 6 (.int 0)))) (w + 73) fs tl fp 0 (-1) dd sb u [] s := hm.ag (fun x y1 y2 => uph_ne (by omega))
    obtain ⟨z3, y3, y4, hN3⟩ := hm2.nm
    exact ⟨_, 0, 0, hN.1, by omega, by omega, nd_suiteAct hX hN ⟨_, _, 0, 0, rfl, hN3.1, by omega, by omega, nm_suiteAct hX hN3 ⟨rfl, hQ _ _ _ _ (WLD.go hC (WXE.ag ⟨kn, sc, hx2⟩ how (fun x hx => uph_ne (by omega))) hm2.su0 (by omega) (by omega))⟩⟩⟩
  · have hwd := hm.qwd ht
    have hda := (hx.nxw.2.2.2.1 t ht).1
    have hc4 := hx.nxw.2.2.1
    obtain ⟨y1, y2, y3, y4, y5⟩ := hx.qff ht
    obtain ⟨c1, c2⟩ := capS_ok (kn := kn t) (sc := sc t) hwd hx.nxw.2.1
    obtain ⟨c3, c4⟩ := gS_mono c2
    obtain ⟨c5, c6⟩ := gS_b c1
    refine ⟨_, _, _, hx.1.1, ?_, ?_, x_suiteAct hX hx.1 hx.2.1 hx.2.2.1 hx.2.2.2.1 y1 y4 y5 ht (by omega) (fun h1 nx1 kn1 n1 b1 b2 b3 b4 b5 b6 hs1 q1 q2 q3 => ?_)⟩
    · omega
    · omega
    have hm1 : WM h1 (w + 73) fs tl fp c (nI t) dd sb u L s := hm.ag (fun x z1 z2 => hs1 x (Or.inr (Or.inl (by omega))) (by omega))
    exact ⟨_, _, 0, 0, rfl, hm1.1.1, by omega, by omega, m_suiteAct hX hm1.1 hm1.2.1 hm1.q19 (hm1.qpg ht) hwd hm1.qst (by omega) (hm1.qhw ht).2 (fun h2 fs2 R rk e2 => ⟨rfl, hQ _ _ _ _ (WLD.go hC (WXE.ag (hx.lst ht how (by omega) (by omega) hs1 b1 b2 b3 ⟨b4, y2.ag q1, y3.ag (fun x p1 p2 => (show x = da t + 22 ∨ x = da t + 23 by omega).elim (fun e => by rw [e]; exact q2) (fun e => by rw [e]; exact q3)), b5, b6⟩) how (fun x y => R.2.2.2 x (by omega))) (hm1.msu R ht hc4 e2 rk) (by omega) (by omega))⟩)⟩
set_option maxHeartbeats 2000000 in
theorem pw_suiteActs (hX : XC G ∧ TX l G) (hW : WLD h nx o w om j k n) (hj : j < 512) (hQ : ∀ (h2 : AH) (nx2 k2 n2 : Nat), WLD h2 nx2 o w om (j + 1) k2 n2 → Q h2 nx2 k2 n2) : PR l G o om i_X11_suiteActs i_X12_suiteActs [] h nx k n Q := by
  obtain ⟨tl, c, vb, sb, q, fp, ah, da, dd, u, L, s, kn, sc, fs, hC, hx, hm, v1, v2, v3, v4⟩ := hW
  obtain ⟨rfl, how, htl, hu, hwl, hcc⟩ := id hC
  obtain ⟨gb1, gb2⟩ := gS_b hx.nxw.2.1
  rcases hcc with ⟨rfl, rfl, rfl⟩ | ⟨t, ht, rfl, hs⟩
  · obtain ⟨fx, fb, fi, fw, fl, fv, ft, df, g, z, hN⟩ := hx.nd
    obtain ⟨z1, y1, y2, hN2⟩ := hm.nm
    have hx2 := hx.su0 hN how
    have hm2 : WM (uph h (w + 21) (.inr (1, fi.set 6 (.int 0)))) (w + 73) fs tl fp 0 (-1) dd sb u [] s := hm.ag (fun x y1 y2 => uph_ne (by omega))
    obtain ⟨z3, y3, y4, hN3⟩ := hm2.nm
    exact ⟨_, 0, 0, hN.1, by omega, by omega, nd_suiteActs hX hN ⟨_, _, 0, 0, rfl, hN3.1, by omega, by omega, nm_suiteActs hX hN3 ⟨rfl, hQ _ _ _ _ (WLD.go hC (WXE.ag ⟨kn, sc, hx2⟩ how (fun x hx => uph_ne (by omega))) hm2.su0 (by omega) (by omega))⟩⟩⟩
  · have hwd := hm.qwd ht
    have hda := (hx.nxw.2.2.2.1 t ht).1
    have hc4 := hx.nxw.2.2.1
    obtain ⟨y1, y2, y3, y4, y5⟩ := hx.qff ht
    obtain ⟨c1, c2⟩ := capS_ok (kn := kn t) (sc := sc t) hwd hx.nxw.2.1
    obtain ⟨c3, c4⟩ := gS_mono c2
    obtain ⟨c5, c6⟩ := gS_b c1
    refine ⟨_, _, _, hx.1.1, ?_, ?_, x_suiteActs hX hx.1 hx.2.1 hx.2.2.1 hx.2.2.2.1 y1 y4 y5 ht (by omega) (fun h1 nx1 kn1 n1 b1 b2 b3 b4 b5 b6 hs1 q1 q2 q3 => ?_)⟩
    · omega
    · omega
    have hm1 : WM h1 (w + 73) fs tl fp c (nI t) dd sb u L s := hm.ag (fun x z1 z2 => hs1 x (Or.inr (Or.inl (by omega))) (by omega))
    exact ⟨_, _, 0, 0, rfl, hm1.1.1, by omega, by omega, m_suiteActs hX hm1.1 hm1.2.1 hm1.q19 (hm1.qpg ht) hwd hm1.qst (by omega) (hm1.qhw ht).2 (fun h2 fs2 R rk e2 => ⟨rfl, hQ _ _ _ _ (WLD.go hC (WXE.ag (hx.lst ht how (by omega) (by omega) hs1 b1 b2 b3 ⟨b4, y2.ag q1, y3.ag (fun x p1 p2 => (show x = da t + 22 ∨ x = da t + 23 by omega).elim (fun e => by rw [e]; exact q2) (fun e => by rw [e]; exact q3)), b5, b6⟩) how (fun x y => R.2.2.2 x (by omega))) (hm1.msu R ht hc4 e2 rk) (by omega) (by omega))⟩)⟩
set_option maxHeartbeats 2000000 in
theorem pw_log {a1 a2 a3 : Int32} (hX : XC G ∧ TX l G) (hW : WLD h nx o w om j k n) (hj : j < 512) (hQ : ∀ (h2 : AH) (nx2 k2 n2 : Nat), WLD h2 nx2 o w om (j + 1) k2 n2 → Q h2 nx2 k2 n2) : PR l G o om i_X11_log i_X12_log [.int a1, .int a2, .int a3] h nx k n Q := by
  obtain ⟨tl, c, vb, sb, q, fp, ah, da, dd, u, L, s, kn, sc, fs, hC, hx, hm, v1, v2, v3, v4⟩ := hW
  obtain ⟨rfl, how, htl, hu, hwl, hcc⟩ := id hC
  obtain ⟨gb1, gb2⟩ := gS_b hx.nxw.2.1
  rcases hcc with ⟨rfl, rfl, rfl⟩ | ⟨t, ht, rfl, hs⟩
  · obtain ⟨fx, fb, fi, fw, fl, fv, ft, df, g, z, hN⟩ := hx.nd
    obtain ⟨z1, y1, y2, hN2⟩ := hm.nm
    exact pw0 hN.1 hN2.1 (by omega) (by omega) (fun _ hP => nd_log hX hN hP) (fun _ hP => nm_log hX hN2 hP) (hQ _ _ _ _ (WLD.go hC ⟨kn, sc, hx⟩ hm (by omega) (by omega)))
  · have hwd := hm.qwd ht
    refine ⟨_, 0, 0, hx.1.1, by omega, by omega, x_log hX hx.1 ht hx.2.2.2.2.1 hwl (fun h1 hs1 e1 => ?_)⟩
    have hm1 : WM h1 (w + 73) fs tl fp c (nI t) dd sb u L s := hm.ag (fun x y1 y2 => hs1 x (by omega))
    exact ⟨_, _, 0, 0, rfl, hm1.1.1, by omega, by omega, m_log hX hm1.1 hm1.2.1 hm1.q19 (hm1.qpg ht) hwd hm1.qlg hwl (fun h2 fs2 R e2 => ⟨rfl, hQ _ _ _ _ (WLD.go ⟨rfl, how, htl, hu, lgL_ok hwl hwd, Or.inr ⟨t, ht, rfl, hs⟩⟩ (WXE.ag (hx.lgs ht how hs1 e1) how (fun x y => R.2.2.2 x (by omega))) (hm1.mlo R (by omega) e2) (by omega) (by omega))⟩)⟩
set_option maxHeartbeats 2000000 in
theorem pw_annul {a1 : Int32} (hX : XC G ∧ TX l G) (hW : WLD h nx o w om j k n) (hj : j < 512) (hQ : ∀ (h2 : AH) (nx2 k2 n2 : Nat), WLD h2 nx2 o w om (j + 1) k2 n2 → Q h2 nx2 k2 n2) : PR l G o om i_X11_annul i_X12_annul [.int a1] h nx k n Q := by
  obtain ⟨tl, c, vb, sb, q, fp, ah, da, dd, u, L, s, kn, sc, fs, hC, hx, hm, v1, v2, v3, v4⟩ := hW
  obtain ⟨rfl, how, htl, hu, hwl, hcc⟩ := id hC
  obtain ⟨gb1, gb2⟩ := gS_b hx.nxw.2.1
  rcases hcc with ⟨rfl, rfl, rfl⟩ | ⟨t, ht, rfl, hs⟩
  · obtain ⟨fx, fb, fi, fw, fl, fv, ft, df, g, z, hN⟩ := hx.nd
    obtain ⟨z1, y1, y2, hN2⟩ := hm.nm
    exact pw0 hN.1 hN2.1 (by omega) (by omega) (fun _ hP => nd_annul hX hN hP) (fun _ hP => nm_annul hX hN2 hP) (hQ _ _ _ _ (WLD.go hC ⟨kn, sc, hx⟩ hm (by omega) (by omega)))
  · refine ⟨_, 0, 0, hx.1.1, by omega, by omega, x_annul hX hx.1 hx.2.2.2.2.1 hwl (fun h1 hs1 e1 => ?_)⟩
    have hm1 : WM h1 (w + 73) fs tl fp c (nI t) dd sb u L s := hm.ag (fun x y1 y2 => hs1 x (by omega))
    exact ⟨_, _, 0, 0, rfl, hm1.1.1, by omega, by omega, m_annul hX hm1.1 hm1.2.1 hm1.qlg hwl (fun h2 fs2 R e2 => ⟨rfl, hQ _ _ _ _ (WLD.go ⟨rfl, how, htl, hu, anL_ok hwl, Or.inr ⟨t, ht, rfl, hs⟩⟩ (WXE.ag (hx.lgs ht how hs1 e1) how (fun x y => R.2.2.2 x (by omega))) (hm1.mlo R (by omega) e2) (by omega) (by omega))⟩)⟩
set_option maxHeartbeats 2000000 in
theorem pw_set {a1 : Int32} {b : Bool} (hX : XC G ∧ TX l G) (hW : WLD h nx o w om j k n) (hj : j < 512) (hQ : ∀ (h2 : AH) (nx2 k2 n2 : Nat), WLD h2 nx2 o w om (j + 1) k2 n2 → Q h2 nx2 k2 n2) : PR l G o om i_X11_set i_X12_set [.int a1, .int (nI b.toNat)] h nx k n Q := by
  obtain ⟨tl, c, vb, sb, q, fp, ah, da, dd, u, L, s, kn, sc, fs, hC, hx, hm, v1, v2, v3, v4⟩ := hW
  obtain ⟨rfl, how, htl, hu, hwl, hcc⟩ := id hC
  obtain ⟨gb1, gb2⟩ := gS_b hx.nxw.2.1
  rcases hcc with ⟨rfl, rfl, rfl⟩ | ⟨t, ht, rfl, hs⟩
  · obtain ⟨fx, fb, fi, fw, fl, fv, ft, df, g, z, hN⟩ := hx.nd
    obtain ⟨z1, y1, y2, hN2⟩ := hm.nm
    exact pw0 hN.1 hN2.1 (by omega) (by omega) (fun _ hP => nd_set hX hN hP) (fun _ hP => nm_set hX hN2 hP) (hQ _ _ _ _ (WLD.go hC ⟨kn, sc, hx⟩ hm (by omega) (by omega)))
  · have hwd := hm.qwd ht
    have hc4 := hx.nxw.2.2.1
    refine ⟨_, 0, 0, hx.1.1, by omega, by omega, x_set hX hx.1 (hx.qhw ht) (hx.1.2.2.2.2.1 t ht).1 hwd (fun h1 hs1 e1 => ?_)⟩
    have hm1 : WM h1 (w + 73) fs tl fp c (nI t) dd sb u L s := hm.ag (fun x y1 y2 => hs1 x (by omega))
    exact ⟨_, _, 0, 0, rfl, hm1.1.1, by omega, by omega, m_set hX hm1.1 hm1.2.1 hm1.q19 (hm1.qpg ht) hwd (hm1.qhw ht).1 (fun h2 fs2 R e2 => ⟨rfl, hQ _ _ _ _ (WLD.go ⟨rfl, how, htl, hu, hwl, Or.inr ⟨t, ht, rfl, hSet_ok hwd hs⟩⟩ (WXE.ag (hx.hnd ht how hs1 e1 rfl) how (fun x y => R.2.2.2 x (by omega))) (hm1.mhd R ht hc4 e2) (by omega) (by omega))⟩)⟩
set_option maxHeartbeats 2000000 in
theorem pw_strap {a1 : Int32} {b : Bool} (hX : XC G ∧ TX l G) (hW : WLD h nx o w om j k n) (hj : j < 512) (hQ : ∀ (h2 : AH) (nx2 k2 n2 : Nat), WLD h2 nx2 o w om (j + 1) k2 n2 → Q h2 nx2 k2 n2) : PR l G o om i_X11_strap i_X12_strap [.int a1, .int (nI b.toNat)] h nx k n Q := by
  obtain ⟨tl, c, vb, sb, q, fp, ah, da, dd, u, L, s, kn, sc, fs, hC, hx, hm, v1, v2, v3, v4⟩ := hW
  obtain ⟨rfl, how, htl, hu, hwl, hcc⟩ := id hC
  obtain ⟨gb1, gb2⟩ := gS_b hx.nxw.2.1
  rcases hcc with ⟨rfl, rfl, rfl⟩ | ⟨t, ht, rfl, hs⟩
  · obtain ⟨fx, fb, fi, fw, fl, fv, ft, df, g, z, hN⟩ := hx.nd
    obtain ⟨z1, y1, y2, hN2⟩ := hm.nm
    exact pw0 hN.1 hN2.1 (by omega) (by omega) (fun _ hP => nd_strap hX hN hP) (fun _ hP => nm_strap hX hN2 hP) (hQ _ _ _ _ (WLD.go hC ⟨kn, sc, hx⟩ hm (by omega) (by omega)))
  · have hwd := hm.qwd ht
    have hc4 := hx.nxw.2.2.1
    refine ⟨_, 0, 0, hx.1.1, by omega, by omega, x_strap hX hx.1 (hx.qhw ht) (hx.1.2.2.2.2.1 t ht).1 hwd (fun h1 hs1 e1 => ?_)⟩
    have hm1 : WM h1 (w + 73) fs tl fp c (nI t) dd sb u L s := hm.ag (fun x y1 y2 => hs1 x (by omega))
    exact ⟨_, _, 0, 0, rfl, hm1.1.1, by omega, by omega, m_strap hX hm1.1 hm1.2.1 hm1.q19 (hm1.qpg ht) hwd (hm1.qhw ht).1 (fun h2 fs2 R e2 => ⟨rfl, hQ _ _ _ _ (WLD.go ⟨rfl, how, htl, hu, hwl, Or.inr ⟨t, ht, rfl, hStrap_ok hwd hs⟩⟩ (WXE.ag (hx.hnd ht how hs1 e1 rfl) how (fun x y => R.2.2.2 x (by omega))) (hm1.mhd R ht hc4 e2) (by omega) (by omega))⟩)⟩
set_option maxHeartbeats 2000000 in
theorem pw_age {a1 a2 : Int32} (hX : XC G ∧ TX l G) (hW : WLD h nx o w om j k n) (hj : j < 512) (hQ : ∀ (h2 : AH) (nx2 k2 n2 : Nat), WLD h2 nx2 o w om (j + 1) k2 n2 → Q h2 nx2 k2 n2) : PR l G o om i_X11_age i_X12_age [.int a1, .int a2] h nx k n Q := by
  obtain ⟨tl, c, vb, sb, q, fp, ah, da, dd, u, L, s, kn, sc, fs, hC, hx, hm, v1, v2, v3, v4⟩ := hW
  obtain ⟨rfl, how, htl, hu, hwl, hcc⟩ := id hC
  obtain ⟨gb1, gb2⟩ := gS_b hx.nxw.2.1
  rcases hcc with ⟨rfl, rfl, rfl⟩ | ⟨t, ht, rfl, hs⟩
  · obtain ⟨fx, fb, fi, fw, fl, fv, ft, df, g, z, hN⟩ := hx.nd
    obtain ⟨z1, y1, y2, hN2⟩ := hm.nm
    exact pw0 hN.1 hN2.1 (by omega) (by omega) (fun _ hP => nd_age hX hN hP) (fun _ hP => nm_age hX hN2 hP) (hQ _ _ _ _ (WLD.go hC ⟨kn, sc, hx⟩ hm (by omega) (by omega)))
  · have hwd := hm.qwd ht
    have hc4 := hx.nxw.2.2.1
    refine ⟨_, 0, 0, hx.1.1, by omega, by omega, x_age hX hx.1 (hx.qhw ht) (hx.1.2.2.2.2.1 t ht).1 hwd (fun h1 hs1 e1 => ?_)⟩
    have hm1 : WM h1 (w + 73) fs tl fp c (nI t) dd sb u L s := hm.ag (fun x y1 y2 => hs1 x (by omega))
    exact ⟨_, _, 0, 0, rfl, hm1.1.1, by omega, by omega, m_age hX hm1.1 hm1.2.1 hm1.q19 (hm1.qpg ht) hwd (hm1.qhw ht).1 (fun h2 fs2 R e2 => ⟨rfl, hQ _ _ _ _ (WLD.go ⟨rfl, how, htl, hu, hwl, Or.inr ⟨t, ht, rfl, hAge_ok hs⟩⟩ (WXE.ag (hx.hnd ht how hs1 e1 rfl) how (fun x y => R.2.2.2 x (by omega))) (hm1.mhd R ht hc4 e2) (by omega) (by omega))⟩)⟩
set_option maxHeartbeats 2000000 in
theorem pw_round (hX : XC G ∧ TX l G) (hW : WLD h nx o w om j k n) (hj : j < 512) (hQ : ∀ (h2 : AH) (nx2 k2 n2 : Nat), WLD h2 nx2 o w om (j + 1) k2 n2 → Q h2 nx2 k2 n2) : PR l G o om i_X11_round i_X12_round [] h nx k n Q := by
  obtain ⟨tl, c, vb, sb, q, fp, ah, da, dd, u, L, s, kn, sc, fs, hC, hx, hm, v1, v2, v3, v4⟩ := hW
  obtain ⟨rfl, how, htl, hu, hwl, hcc⟩ := id hC
  obtain ⟨gb1, gb2⟩ := gS_b hx.nxw.2.1
  rcases hcc with ⟨rfl, rfl, rfl⟩ | ⟨t, ht, rfl, hs⟩
  · obtain ⟨fx, fb, fi, fw, fl, fv, ft, df, g, z, hN⟩ := hx.nd
    obtain ⟨z1, y1, y2, hN2⟩ := hm.nm
    exact pw0 hN.1 hN2.1 (by omega) (by omega) (fun _ hP => nd_round hX hN hP) (fun _ hP => nm_round hX hN2 hP) (hQ _ _ _ _ (WLD.go hC ⟨kn, sc, hx⟩ hm (by omega) (by omega)))
  · have hwd := hm.qwd ht
    have hc4 := hx.nxw.2.2.1
    refine ⟨_, 0, 0, hx.1.1, by omega, by omega, x_round hX hx.1 ht (hx.qhw ht) hs (fun h1 hs1 e1 => ?_)⟩
    have hm1 : WM h1 (w + 73) fs tl fp c (nI t) dd sb u L s := hm.ag (fun x y1 y2 => hs1 x (by omega))
    exact ⟨_, _, 0, 0, rfl, hm1.1.1, by omega, by omega, m_round hX hm1.1 hm1.2.1 hm1.q19 (hm1.qpg ht) hwd (hm1.qhw ht).1 hs (fun h2 fs2 R e2 => ⟨rfl, hQ _ _ _ _ (WLD.go ⟨rfl, how, htl, hu, hwl, Or.inr ⟨t, ht, rfl, hRnd_ok hwd hs⟩⟩ (WXE.ag (hx.hnd ht how hs1 e1 rfl) how (fun x y => R.2.2.2 x (by omega))) (hm1.mhd R ht hc4 e2) (by omega) (by omega))⟩)⟩
end PRS
