/-! the tape, use, read: out of the world -/
theorem bt_bv (w s : Int32) : ∃ m : Nat, m < 256 ∧ bt w s = bvN m := by
  obtain ⟨b, hb⟩ : ∃ b : Int8, b = (w >>> (s &&& 31)).toInt8 := ⟨_, rfl⟩
  refine ⟨b.toBitVec.toNat, b.toBitVec.isLt, ?_⟩
  have e : Int8.ofNat b.toBitVec.toNat = b := Int8.toBitVec.inj (by rw [Int8.toBitVec_ofNat', BitVec.ofNat_toNat, BitVec.setWidth_eq])
  show vp_nar (TY 2) ((w >>> (s &&& 31)).toInt8.toInt32) = (Int32.ofNat b.toBitVec.toNat).toInt8.toInt32
  rw [← hb, Int32.toInt8_ofNat', e]
  show b.toInt32.toInt8.toInt32 = b.toInt32
  rw [Int8.toInt8_toInt32]
theorem put4_b {f : Nat → Int32} {t k : Nat} {w : Int32} (hk : k = t + 4) (hf : ∀ i, i < t → ∃ m : Nat, m < 256 ∧ f i = bvN m) : ∀ i, i < k → ∃ m : Nat, m < 256 ∧ put4 f t w i = bvN m := by
  intro i hi
  unfold put4
  by_cases e3 : i = t + 3
  · rw [e3, pk_us]; exact bt_bv _ _
  · rw [pk_un e3]
    by_cases e2 : i = t + 2
    · rw [e2, pk_us]; exact bt_bv _ _
    · rw [pk_un e2]
      by_cases e1 : i = t + 1
      · rw [e1, pk_us]; exact bt_bv _ _
      · rw [pk_un e1]
        by_cases e0 : i = t
        · rw [e0, pk_us]; exact bt_bv _ _
        · rw [pk_un e0]; exact hf i (by omega)
theorem put4_s {f g : Nat → Int32} {t k : Nat} {w : Int32} (hk : k = t + 4) (hf : ∀ i, i < t → f i = g i) : ∀ i, i < k → put4 f t w i = put4 g t w i := by
  intro i hi
  unfold put4
  by_cases e3 : i = t + 3
  · rw [e3, pk_us, pk_us]
  · rw [pk_un e3, pk_un e3]
    by_cases e2 : i = t + 2
    · rw [e2, pk_us, pk_us]
    · rw [pk_un e2, pk_un e2]
      by_cases e1 : i = t + 1
      · rw [e1, pk_us, pk_us]
      · rw [pk_un e1, pk_un e1]
        by_cases e0 : i = t
        · rw [e0, pk_us, pk_us]
        · rw [pk_un e0, pk_un e0]; exact hf i (by omega)
theorem tp_u {g : Nat → Int32} {n : Nat} (hg : ∀ i, i < n → ∃ m : Nat, m < 256 ∧ g i = bvN m) : ∃ u : Nat → Nat, (∀ i, u i < 256) ∧ ∀ i, i < n → g i = bvN (u i) := by
  have h2 : ∀ i, ∃ m : Nat, m < 256 ∧ (i < n → g i = bvN m) := fun i => by
    by_cases c : i < n
    · obtain ⟨m, a, b⟩ := hg i c
      exact ⟨m, a, fun _ => b⟩
    · exact ⟨0, by decide, fun z => absurd z c⟩
  obtain ⟨u, hu⟩ := Classical.axiomOfChoice h2
  exact ⟨u, fun i => (hu i).1, fun i => (hu i).2⟩
theorem rowZ.gi {e0 e : Option AE} {t n b : Nat} {g0 : Nat → Int32} (z : rowZ e0 e b) (h0 : e0 = some (.inl (t, n, .inl g0))) : ∃ g : Nat → Int32, e = some (.inl (t, n, .inl g)) ∧ ∀ x, x < b → g x = g0 x := by
  rcases z with z | ⟨t2, n2, g2, g, z1, z2, z3⟩ | ⟨n2, g2, g, z1, z2, z3⟩
  · exact ⟨g0, z.trans h0, fun _ _ => rfl⟩
  · have e2 := z1.symm.trans h0
    cases e2
    exact ⟨g, z2, z3⟩
  · have e2 := z1.symm.trans h0
    cases e2
theorem rowZ.gl {e0 e : Option AE} {n b : Nat} {g0 : Nat → Int64} (z : rowZ e0 e b) (h0 : e0 = some (.inl (1, n, .inr (.inl g0)))) : ∃ g : Nat → Int64, e = some (.inl (1, n, .inr (.inl g))) ∧ ∀ x, x < b → g x = g0 x := by
  rcases z with z | ⟨t2, n2, g2, g, z1, z2, z3⟩ | ⟨n2, g2, g, z1, z2, z3⟩
  · exact ⟨g0, z.trans h0, fun _ _ => rfl⟩
  · have e2 := z1.symm.trans h0
    cases e2
  · have e2 := z1.symm.trans h0
    cases e2
    exact ⟨g, z2, z3⟩
/-- a page that was there before a reading of page c -/
theorem MPg.old {h h1 : AH} {o d c : Nat} {D : DD} (hD : MPg h o d D) (hx : MPx h o d D) (hw : WD D) (hd : d < c) (hr : ∀ j, 7 ≤ j → j < 29 → rowZ (h (o + 1 + j)) (h1 (o + 1 + j)) (stR j * c)) : MPg h1 o d D ∧ MPx h1 o d D := by
  have w1 := hw.i
  have w2 := hw.k
  have w3 := hw.r
  have w4 := hw.l
  obtain ⟨⟨trk, gm, go, gn, gR, gL, gf, gt, gk, e8, e18, e20, e21, e10, e13, e23, e24, e27, d5, p1, p2, p3, p4, p5, p6, p7, p8, p9⟩, ⟨gw, e19, p10⟩, ⟨gv, gl, trk2, gf2, gt2, gk2, f16, f17, f8, f23, f24, f27, _, n1, n2, n3, n4⟩, ⟨gi, e7, p11⟩, ⟨gs, e11, p12⟩, ⟨gg, e14, p13⟩, ⟨⟨g9, e9, p14⟩, ⟨g12, e12, p15⟩, ⟨g15, e15, p16⟩, g25, g26, g28, e25, e26, e28, p17⟩, hd5⟩ := hD
  obtain ⟨xf, xt, xs, xe, y23, y24, y25, y26, y1, y2⟩ := hx
  have q1 := f8.symm.trans e8
  cases q1
  have q2 := f23.symm.trans e23
  cases q2
  have q3 := f24.symm.trans e24
  cases q3
  have q4 := f27.symm.trans e27
  cases q4
  have q5 := y23.symm.trans e23
  cases q5
  have q6 := y24.symm.trans e24
  cases q6
  have q7 := y25.symm.trans e25
  cases q7
  have q8 := y26.symm.trans e26
  cases q8
  obtain ⟨G7, r7, b7⟩ := (hr 7 (by decide) (by decide)).gi e7
  replace b7 : ∀ x, x < 1 * c → G7 x = _ := b7
  obtain ⟨G8, r8, b8⟩ := (hr 8 (by decide) (by decide)).gi e8
  replace b8 : ∀ x, x < 5 * c → G8 x = _ := b8
  obtain ⟨G9, r9, b9⟩ := (hr 9 (by decide) (by decide)).gl e9
  replace b9 : ∀ x, x < 5 * c → G9 x = _ := b9
  obtain ⟨G10, r10, b10⟩ := (hr 10 (by decide) (by decide)).gi e10
  replace b10 : ∀ x, x < 1 * c → G10 x = _ := b10
  obtain ⟨G11, r11, b11⟩ := (hr 11 (by decide) (by decide)).gi e11
  replace b11 : ∀ x, x < 6 * c → G11 x = _ := b11
  obtain ⟨G12, r12, b12⟩ := (hr 12 (by decide) (by decide)).gl e12
  replace b12 : ∀ x, x < 6 * c → G12 x = _ := b12
  obtain ⟨G13, r13, b13⟩ := (hr 13 (by decide) (by decide)).gi e13
  replace b13 : ∀ x, x < 1 * c → G13 x = _ := b13
  obtain ⟨G14, r14, b14⟩ := (hr 14 (by decide) (by decide)).gi e14
  replace b14 : ∀ x, x < 5 * c → G14 x = _ := b14
  obtain ⟨G15, r15, b15⟩ := (hr 15 (by decide) (by decide)).gl e15
  replace b15 : ∀ x, x < 5 * c → G15 x = _ := b15
  obtain ⟨G16, r16, b16⟩ := (hr 16 (by decide) (by decide)).gi f16
  replace b16 : ∀ x, x < 1 * c → G16 x = _ := b16
  obtain ⟨G17, r17, b17⟩ := (hr 17 (by decide) (by decide)).gi f17
  replace b17 : ∀ x, x < 6 * c → G17 x = _ := b17
  obtain ⟨G18, r18, b18⟩ := (hr 18 (by decide) (by decide)).gi e18
  replace b18 : ∀ x, x < 1 * c → G18 x = _ := b18
  obtain ⟨G19, r19, b19⟩ := (hr 19 (by decide) (by decide)).gi e19
  replace b19 : ∀ x, x < 40 * c → G19 x = _ := b19
  obtain ⟨G20, r20, b20⟩ := (hr 20 (by decide) (by decide)).gi e20
  replace b20 : ∀ x, x < 40 * c → G20 x = _ := b20
  obtain ⟨G21, r21, b21⟩ := (hr 21 (by decide) (by decide)).gi e21
  replace b21 : ∀ x, x < 40 * c → G21 x = _ := b21
  obtain ⟨G23, r23, b23⟩ := (hr 23 (by decide) (by decide)).gi e23
  replace b23 : ∀ x, x < 17 * c → G23 x = _ := b23
  obtain ⟨G24, r24, b24⟩ := (hr 24 (by decide) (by decide)).gi e24
  replace b24 : ∀ x, x < 17 * c → G24 x = _ := b24
  obtain ⟨G25, r25, b25⟩ := (hr 25 (by decide) (by decide)).gi e25
  replace b25 : ∀ x, x < 17 * c → G25 x = _ := b25
  obtain ⟨G26, r26, b26⟩ := (hr 26 (by decide) (by decide)).gi e26
  replace b26 : ∀ x, x < 17 * c → G26 x = _ := b26
  obtain ⟨G27, r27, b27⟩ := (hr 27 (by decide) (by decide)).gi e27
  replace b27 : ∀ x, x < 420 * c → G27 x = _ := b27
  obtain ⟨G28, r28, b28⟩ := (hr 28 (by decide) (by decide)).gl e28
  replace b28 : ∀ x, x < 420 * c → G28 x = _ := b28
  refine ⟨⟨⟨G8, G18, G20, G21, G10, G13, G23, G24, G27, r8, r18, r20, r21, r10, r13, r23, r24, r27, d5, (b18 _ (by omega)).trans p1, p2, (b10 _ (by omega)).trans p3, p4, (b13 _ (by omega)).trans p5, p6, fun k hk => ?_, fun i hi => (b8 _ (by omega)).trans (p8 i hi), fun k hk hc => ?_⟩, ⟨G19, r19, fun k hk => ⟨(b19 _ (by omega)).trans (p10 k hk).1, (p10 k hk).2⟩⟩, ⟨G16, G17, G8, G23, G24, G27, r16, r17, r8, r23, r24, r27, d5, (b16 _ (by omega)).trans n1, n2, fun i hi => (b8 _ (by omega)).trans (n3 i hi), fun k hk => ?_⟩, ⟨G7, r7, (b7 _ (by omega)).trans p11⟩, ⟨G11, r11, fun r hr => (b11 _ (by omega)).trans (p12 r hr)⟩, ⟨G14, r14, fun k hk => (b14 _ (by omega)).trans (p13 k hk)⟩, ⟨⟨G9, r9, fun i hi => (b9 _ (by omega)).trans (p14 i hi)⟩, ⟨G12, r12, fun i hi => (b12 _ (by omega)).trans (p15 i hi)⟩, ⟨G15, r15, fun i hi => (b15 _ (by omega)).trans (p16 i hi)⟩, G25, G26, G28, r25, r26, r28, fun k hk hc => ?_⟩, hd5⟩, ⟨G23, G24, G25, G26, r23, r24, r25, r26, fun k hk hc => ?_, fun k hk => ?_⟩⟩
  · obtain ⟨z1, z2, z3⟩ := p7 k hk
    exact ⟨(b20 _ (by omega)).trans z1, z2, (b21 _ (by omega)).trans z3⟩
  · obtain ⟨a, codes, z1, z2, z3, z4, z5, z6, z7⟩ := p9 k hk hc
    obtain ⟨a2, b2, v1, v2, v3, _⟩ := y1 k hk hc
    have eb : a + codes.length = b2 := (nI_eq (by omega) (by omega)).mp (z2.symm.trans v2)
    exact ⟨a, codes, (b23 _ (by omega)).trans z1, (b24 _ (by omega)).trans z2, fun i hi => (b27 _ (by omega)).trans (z3 i hi), z4, z5, z6, z7⟩
  · obtain ⟨z0, zz0, a, codes, z1, z2, z3, z4, z5, z6, z7⟩ := n4 k hk
    obtain ⟨a2, b2, v1, v2, v3⟩ := y2 k hk
    have eb : a + codes.length = b2 := (nI_eq (by omega) (by omega)).mp (z2.symm.trans v2)
    exact ⟨(b17 _ (by omega)).trans z0, zz0, a, codes, (b23 _ (by omega)).trans z1, (b24 _ (by omega)).trans z2, fun i hi => (b27 _ (by omega)).trans (z3 i hi), z4, z5, z6, z7⟩
  · obtain ⟨a, z1, z2, z3, z4⟩ := p17 k hk hc
    obtain ⟨_, _, _, _, _, a2, b2, v1, v2, v3⟩ := y1 k hk hc
    have eb : a + (dsg D k).length = b2 := (nI_eq (by omega) (by omega)).mp (z2.symm.trans v2)
    exact ⟨a, (b25 _ (by omega)).trans z1, (b26 _ (by omega)).trans z2, z3, fun i hi => (b28 _ (by omega)).trans (z4 i hi)⟩
  · obtain ⟨a, b, z1, z2, z3, a2, b2, v1, v2, v3⟩ := y1 k hk hc
    exact ⟨a, b, (b23 _ (by omega)).trans z1, (b24 _ (by omega)).trans z2, z3, a2, b2, (b25 _ (by omega)).trans v1, (b26 _ (by omega)).trans v2, v3⟩
  · obtain ⟨a, b, z1, z2, z3⟩ := y2 k hk
    exact ⟨a, b, (b23 _ (by omega)).trans z1, (b24 _ (by omega)).trans z2, z3⟩
theorem WX.tp {h h1 : AH} {nx o w tl tl2 c vb q : Nat} {fp ah : Int32} {da : Nat → Nat} {dd : Nat → DD} {u u2 : Nat → Nat} {L : List LE} {s : HWk} {kn : Nat → Nat → Bool} {sc : Nat → Int32} (H : WX h nx o w tl fp c ah da dd vb q u L s kn sc) (hO : h1 o = some (.inr (11, xfO w tl2 fp c ah))) (hs : ∀ x, x ≠ o → x ≠ w → (x < w + 73 ∨ w + 137 ≤ x) → h1 x = h x) (ht : ∃ g : Nat → Int32, h1 w = some (.inl (2, 2000, .inl g)) ∧ ∀ i, i < tl2 → g i = bvN (u2 i)) : WX h1 nx o w tl2 fp c ah da dd vb q u2 L s kn sc := by
  obtain ⟨z1, z2, z3, z4, z5⟩ := H.nxw
  obtain ⟨⟨A1, ⟨df, A2, A3⟩, A4, A5, A6, A7, A8⟩, b, c1, d, e, ⟨a0, f1, f2⟩, g, i, _, k, l⟩ := H
  refine ⟨⟨hO, ⟨df, (hs _ (by omega) (by omega) (by omega)).trans A2, A3⟩, A4, A5.ag (fun x hx => hs x (by omega) (by omega) (by omega)), fun i hi => ⟨(A6 i hi).1.ag (fun x hx => by have := z4 i hi; exact hs x (by omega) (by omega) (by omega)), (A6 i hi).2⟩, A7, A8⟩, b.ag (fun x _ _ => hs x (by omega) (by omega) (by omega)), c1.ag (fun x _ _ => hs x (by omega) (by omega) (by omega)), d.ag (fun x hx => hs x (by omega) (by omega) (by omega)), e.ag (fun x _ _ => hs x (by omega) (by omega) (by omega)), ⟨a0, f1.ag (fun x _ _ => hs x (by omega) (by omega) (by omega)), f2⟩, g.ag (fun x _ _ => hs x (by omega) (by omega) (by omega)), i.ag (fun x _ _ => hs x (by omega) (by omega) (by omega)), ht, fun t ht => ?_, fun h0 => (l h0).ag (fun x hx => hs x (by omega) (by omega) (by omega))⟩
  obtain ⟨y1, y2, y3, y4, y5⟩ := k t ht
  have := z4 t ht
  exact ⟨y1.ag (hs _ (by omega) (by omega) (by omega)), y2.ag (hs _ (by omega) (by omega) (by omega)), y3.ag (fun x _ _ => hs x (by omega) (by omega) (by omega)), y4.ag (hs _ (by omega) (by omega) (by omega)) (hs _ (by omega) (by omega) (by omega)), y5.ag (hs _ (by omega) (by omega) (by omega))⟩
theorem rfM_2 : ∀ j, j < 63 → rfM j ≠ 2 := by decide
theorem WM.tp {h h1 : AH} {o tl tl2 c sb : Nat} {fs : List Value} {fp ah : Int32} {dd : Nat → DD} {u u2 : Nat → Nat} {L : List LE} {s : HWk} (H : WM h o fs tl fp c ah dd sb u L s) (hO : h1 o = some (.inr (12, fs.set 2 (.int (nI tl2))))) (hs : ∀ x, o < x → x < o + 64 → x ≠ o + 1 + 0 → h1 x = h x) (ht : ∃ g : Nat → Int32, h1 (o + 1 + 0) = some (.inl (2, 2000, .inl g)) ∧ ∀ i, i < tl2 → g i = bvN (u2 i)) : WM h1 o (fs.set 2 (.int (nI tl2))) tl2 fp c ah dd sb u2 L s := by
  obtain ⟨a1, a2, a3, a4, a5, ⟨a6, a7, a8⟩, ⟨v9, a9⟩, ⟨v10, a10⟩, _, a12, a13, a14, a15, a16⟩ := H
  have hg : ∀ k, k ≠ 2 → (fs.set 2 (.int (nI tl2)))[k]? = fs[k]? := fun k hk => get_set_ne (Ne.symm hk)
  have rr : ∀ j, 0 < j → j < 63 → h1 (o + 1 + j) = h (o + 1 + j) := fun j h0 hj => hs _ (by omega) (by omega) (by omega)
  have old : ∀ i, i < c → MPg h1 o i (dd i) ∧ MPx h1 o i (dd i) := fun i hi => MPg.old (a4.2.2 i hi).1 (a5 i hi) (a4.2.2 i hi).2 hi (fun j j1 j2 => by rw [rr j (by omega) (by omega)]; exact rowZ.rf _ _)
  obtain ⟨gt, t1, t2⟩ := ht
  refine ⟨⟨hO, by rw [List.length_set]; exact a1.2.1, fun j hj => (hg _ (rfM_2 j hj)).trans (a1.2.2 j hj)⟩, a2.upd (fun j hj => ?_), ?_, ⟨(hg 18 (by decide)).trans a4.1, a4.2.1, fun i hi => ⟨?_, (a4.2.2 i hi).2⟩⟩, fun i hi => ?_, ⟨get_set (by rw [a1.2.1]; decide), (hg 17 (by decide)).trans a7, (hg 19 (by decide)).trans a8⟩, ⟨v9, (hg 16 (by decide)).trans a9⟩, ⟨v10, (hg 49 (by decide)).trans a10⟩, ⟨gt, t1, t2⟩, by rw [rr 8 (by decide) (by decide)]; exact a12, a13.ag (rr 51 (by decide) (by decide)) (hg 81 (by decide)), a14.ag (hg 91 (by decide)) (fun j h1 h2 => rr j (by omega) (by omega)), fun t ht e => ?_, fun h0 => ?_⟩
  · rcases Nat.eq_zero_or_pos j with e | e
    · subst e
      exact Or.inr ⟨gt, t1⟩
    · exact Or.inl (rr j e hj)
  · obtain ⟨gg, z1, z2⟩ := a3
    exact ⟨gg, (rr 6 (by decide) (by decide)).trans z1, z2⟩
  · exact (old i hi).1
  · exact (old i hi).2
  · obtain ⟨b1, b2⟩ := a15 t ht e
    exact ⟨b1.ag (hg 50 (by decide)) (hg 51 (by decide)) (hg 55 (by decide)) (fun j h1 h2 => rr j (by omega) (by omega)), b2.imp (fun z => (hg 84 (by decide)).trans z) (fun z => z.ag (fun k hk => hg k (by omega)) (rr 53 (by decide) (by decide)) (rr 54 (by decide) (by decide)))⟩
  · obtain ⟨b1, z, y1, y2, b2, b3, b4, b5⟩ := a16 h0
    exact ⟨(hg 55 (by decide)).trans b1, z, y1, y2, (hg 84 (by decide)).trans b2, (hg 85 (by decide)).trans b3, (hg 86 (by decide)).trans b4, b5⟩
section PRT
variable {l : Launch} {G : GG} {h : AH} {nx o w om j k n : Nat} {Q : AH → Nat → Nat → Nat → Prop}
theorem pw_place (hX : XC G ∧ TX l G) (hW : WLD h nx o w om j k n) (hj : j < 512) (hQ : ∀ (h2 : AH) (nx2 k2 n2 : Nat), WLD h2 nx2 o w om (j + 1) k2 n2 → Q h2 nx2 k2 n2) : PR l G o om i_X11_place i_X12_place [] h nx k n Q := by
  obtain ⟨tl, c, vb, sb, q, fp, ah, da, dd, u, L, s, kn, sc, fs, hC, hx, hm, v1, v2, v3, v4⟩ := hW
  obtain ⟨rfl, how, htl, hu, hwl, _⟩ := id hC
  obtain ⟨gb1, gb2⟩ := gS_b hx.nxw.2.1
  exact pw0 hx.1.1 hm.1.1 (by omega) (by omega) (fun _ hP => c_place hX hx.1.1 rfl hP) (fun _ hP => c_placeM hX hm.1.1 hm.2.2.2.2.2.1.2.1 hP) (hQ _ _ _ _ (WLD.go hC ⟨kn, sc, hx⟩ hm (by omega) (by omega)))
set_option maxHeartbeats 2000000 in
theorem pw_back {a1 : Int32} (hX : XC G ∧ TX l G) (hW : WLD h nx o w om j k n) (hj : j < 512) (hQ : ∀ (h2 : AH) (nx2 k2 n2 : Nat), WLD h2 nx2 o w om (j + 1) k2 n2 → Q h2 nx2 k2 n2) : PR l G o om i_X11_back i_X12_back [.int a1] h nx k n Q := by
  obtain ⟨tl, c, vb, sb, q, fp, ah, da, dd, u, L, s, kn, sc, fs, hC, hx, hm, v1, v2, v3, v4⟩ := hW
  obtain ⟨rfl, how, htl, hu, hwl, _⟩ := id hC
  obtain ⟨gb1, gb2⟩ := gS_b hx.nxw.2.1
  have f2 := hm.2.2.2.2.2.1.1
  refine ⟨_, 0, 0, hx.1.1, by omega, by omega, c_back hX hx.1.1 rfl rfl (fun hc => ?_) (fun c1 c2 => ?_)⟩
  · exact ⟨_, _, 0, 0, rfl, hm.1.1, by omega, by omega, c_backM hX hm.1.1 hm.1.2.1 f2 (fun _ => ⟨rfl, hQ _ _ _ _ (WLD.go hC ⟨kn, sc, hx⟩ hm (by omega) (by omega))⟩) (fun d1 d2 => absurd hc (fun z => z.elim d1 d2))⟩
  · have hm2 : (uph h o (.inr (11, (xfO w tl fp c ah).set 1 (.int (nI tl - a1))))) (w + 73) = some (.inr (12, fs)) := uph_at (by omega) hm.1.1
    refine ⟨_, _, 0, 0, rfl, hm2, by omega, by omega, c_backM hX hm2 hm.1.2.1 f2 (fun z => absurd z (fun z => z.elim c1 c2)) (fun _ _ => ?_)⟩
    obtain ⟨m, hm31, em⟩ := nI_of c1
    have hmt : m ≤ tl := by
      rcases Nat.lt_or_ge tl m with z | z
      · rw [em] at c2
        exact absurd (nI_lt z hm31) c2
      · exact z
    have es : nI tl - a1 = nI (tl - m) := by rw [em]; exact nI_sub hmt
    rw [es]
    obtain ⟨gx, x1, x2⟩ := hx.2.2.2.2.2.2.2.2.1
    obtain ⟨gm, m1, m2⟩ := hm.2.2.2.2.2.2.2.2.1
    refine ⟨rfl, hQ _ _ _ _ (WLD.go (tl := tl - m) (u := u) ⟨rfl, how, by omega, hu, hwl, hC.2.2.2.2.2⟩ ⟨kn, sc, hx.tp (uph_at (by omega) uph_eq) (fun x y1 y2 y3 => (uph_ne (by omega)).trans (uph_ne y1)) ⟨gx, uph_at (by omega) (uph_at (by omega) x1), fun i hi => x2 i (by omega)⟩⟩ (hm.tp uph_eq (fun x y1 y2 y3 => (uph_ne (by omega)).trans (uph_ne (by omega))) ⟨gm, uph_at (by omega) (uph_at (by omega) m1), fun i hi => m2 i (by omega)⟩) (by omega) (by omega))⟩
set_option maxHeartbeats 2000000 in
theorem pw_feed {a1 a2 a3 a4 a5 : Int32} (hX : XC G ∧ TX l G) (hW : WLD h nx o w om j k n) (hj : j < 512) (hQ : ∀ (h2 : AH) (nx2 k2 n2 : Nat), WLD h2 nx2 o w om (j + 1) k2 n2 → Q h2 nx2 k2 n2) : PR l G o om i_X11_feed i_X12_feed [.int a1, .int a2, .int a3, .int a4, .int a5] h nx k n Q := by
  obtain ⟨tl, c, vb, sb, q, fp, ah, da, dd, u, L, s, kn, sc, fs, hC, hx, hm, v1, v2, v3, v4⟩ := hW
  obtain ⟨rfl, how, htl, hu, hwl, _⟩ := id hC
  obtain ⟨gb1, gb2⟩ := gS_b hx.nxw.2.1
  have f2 := hm.2.2.2.2.2.1.1
  by_cases c1 : tl + 20 ≤ 2000
  · obtain ⟨gx, x1, x2⟩ := hx.2.2.2.2.2.2.2.2.1
    obtain ⟨gm, m1, m2⟩ := hm.2.2.2.2.2.2.2.2.1
    have same := put4_s (w := a5) (t := tl + 16) (k := tl + 20) (by omega) (put4_s (w := a4) (t := tl + 12) (by omega) (put4_s (w := a3) (t := tl + 8) (by omega) (put4_s (w := a2) (t := tl + 4) (by omega) (put4_s (w := a1) (t := tl) (by omega) (fun i hi => (m2 i hi).trans (x2 i hi).symm)))))
    obtain ⟨u2, u3, u4⟩ := tp_u (put4_b (w := a5) (t := tl + 16) (k := tl + 20) (by omega) (put4_b (w := a4) (t := tl + 12) (by omega) (put4_b (w := a3) (t := tl + 8) (by omega) (put4_b (w := a2) (t := tl + 4) (by omega) (put4_b (w := a1) (t := tl) (by omega) (fun i hi => ⟨u i, hu i, x2 i hi⟩))))))
    refine ⟨_, 0, 0, hx.1.1, by omega, by omega, c_feed (q := w) hX c1 hx.1.1 rfl rfl rfl x1 (by omega) ?_⟩
    refine ⟨_, _, 0, 0, rfl, uph_at (by omega) (uph_at (by omega) hm.1.1), by omega, by omega, c_feedM (q := w + 73 + 1 + 0) hX c1 (uph_at (by omega) (uph_at (by omega) hm.1.1)) hm.1.2.1 (hm.1.2.2 0 (by decide)) f2 (uph_at (by omega) (uph_at (by omega) m1)) (by omega) ⟨rfl, hQ _ _ _ _ (WLD.go (tl := tl + 20) (u := u2) ⟨rfl, how, c1, u3, hwl, hC.2.2.2.2.2⟩ ⟨kn, sc, hx.tp (uph_at (by omega) (uph_at (by omega) uph_eq)) (fun x y1 y2 y3 => (uph_ne (by omega)).trans ((uph_ne (by omega)).trans ((uph_ne y1).trans (uph_ne y2)))) ⟨_, uph_at (by omega) (uph_at (by omega) (uph_at (by omega) uph_eq)), u4⟩⟩ (hm.tp uph_eq (fun x y1 y2 y3 => (uph_ne (by omega)).trans ((uph_ne y3).trans ((uph_ne (by omega)).trans (uph_ne (by omega))))) ⟨_, uph_at (by omega) uph_eq, fun i hi => (same i hi).trans (u4 i hi)⟩) (by omega) (by omega))⟩⟩
  · exact pw0 hx.1.1 hm.1.1 (by omega) (by omega) (fun _ hP => c_feedFull hX (by omega) htl hx.1.1 rfl hP) (fun _ hP => c_feedMFull hX (by omega) htl hm.1.1 f2 hP) (hQ _ _ _ _ (WLD.go hC ⟨kn, sc, hx⟩ hm (by omega) (by omega)))
end PRT
