/-! the world between two calls -/
/-- x without a drawing: what its calls look at -/
def NDy (h : AH) (w : Nat) : Prop := ∃ (fb fi fw fl fv ft : List Value) (df : Nat → Option Nat) (g : Nat → Int32) (z : Int32), h (w + 30) = some (.inl (4, 4, .inr (.inr (.inr (.inr df))))) ∧ h (w + 1) = some (.inr (0, fb)) ∧ fb[0]? = some (.int 0) ∧ fb[1]? = some (.int 0) ∧ fb[3]? = some (.int 0) ∧ fb[14]? = some (.int 0) ∧ fb[17]? = some (.ref (w + 21)) ∧ h (w + 21) = some (.inr (1, fi)) ∧ fi.length = 7 ∧ fi[0]? = some (.ref (w + 22)) ∧ fi[6]? = some (.int z) ∧ (z = -1 ∨ z = 0) ∧ h (w + 22) = some (.inl (2, 132, .inl g)) ∧ h (w + 70) = some (.inr (2, fw)) ∧ fw[0]? = some (.ref (w + 1)) ∧ fw[4]? = some (.int 0) ∧ h (w + 64) = some (.inr (4, fl)) ∧ fl[5]? = some (.int 0) ∧ h (w + 48) = some (.inr (7, fv)) ∧ h (w + 52) = some (.inr (9, ft))
theorem NDy.ag {h h' : AH} {w : Nat} (H : NDy h w) (hs : ∀ x, x = w + 30 ∨ x = w + 1 ∨ x = w + 21 ∨ x = w + 22 ∨ x = w + 70 ∨ x = w + 64 ∨ x = w + 48 ∨ x = w + 52 → h' x = h x) : NDy h' w := by
  obtain ⟨fb, fi, fw, fl, fv, ft, df, g, z, a1, a2, a3, a4, a5, a6, a7, a8, a9, a10, a11, a12, a13, a14, a15, a16, a17, a18, a19, a20⟩ := H
  exact ⟨fb, fi, fw, fl, fv, ft, df, g, z, (hs _ (by omega)).trans a1, (hs _ (by omega)).trans a2, a3, a4, a5, a6, a7, (hs _ (by omega)).trans a8, a9, a10, a11, a12, (hs _ (by omega)).trans a13, (hs _ (by omega)).trans a14, a15, a16, (hs _ (by omega)).trans a17, a18, (hs _ (by omega)).trans a19, (hs _ (by omega)).trans a20⟩
/-- x between two calls -/
def WX (h : AH) (nx o w tl : Nat) (fp : Int32) (c : Nat) (ah : Int32) (da : Nat → Nat) (dd : Nat → DD) (vb q : Nat) (u : Nat → Nat) (L : List LE) (s : HWk) (kn : Nat → Nat → Bool) (sc : Nat → Int32) : Prop := XA h o w tl fp c ah da dd ∧ XH h w c da dd vb ∧ XS2 h w c da dd vb ∧ TRq h w nx c da q ∧ XLg h w L ∧ (∃ a, XHw h w a s ∧ ∀ t, t < c → ah = nI t → a = da t) ∧ XPl h w c da dd ∧ XRd h (w + 31) ∧ (∃ g : Nat → Int32, h w = some (.inl (2, 2000, .inl g)) ∧ ∀ i, i < tl → g i = bvN (u i)) ∧ (∀ i, i < c → FO h (da i) (sc i) ∧ FA h (da i) (dd i) ∧ FP h (da i) (dd i) ∧ FLk h (da i) (dd i) (kn i) ∧ FS h (da i) (dd i) (sc i)) ∧ (c = 0 → NDy h w)
/-- the model between two calls -/
def WM (h : AH) (o : Nat) (fs : List Value) (tl : Nat) (fp : Int32) (c : Nat) (ah : Int32) (dd : Nat → DD) (sb : Nat) (u : Nat → Nat) (L : List LE) (s : HWk) : Prop := MA h o fs ∧ SHm h o ∧ mkRow h o ∧ MPs h o fs c dd ∧ (∀ i, i < c → MPx h o i (dd i)) ∧ (fs[2]? = some (.int (nI tl)) ∧ fs[17]? = some (.int fp) ∧ fs[19]? = some (.int ah)) ∧ (∃ v, fs[16]? = some (.int v)) ∧ (∃ v, fs[49]? = some (.int v)) ∧ (∃ g : Nat → Int32, h (o + 1 + 0) = some (.inl (2, 2000, .inl g)) ∧ ∀ i, i < tl → g i = bvN (u i)) ∧ B8 (h (o + 1 + 8)) ∧ MSt h o fs sb ∧ MLg h o fs L ∧ (∀ t, t < c → ah = nI t → MHw h o fs (dd t) s ∧ (fs[84]? = some (.int 0) ∨ rwK h o fs (dd t))) ∧ (c = 0 → fs[55]? = some (.int 0) ∧ ∃ z y1 y2 : Int32, fs[84]? = some (.int z) ∧ fs[85]? = some (.int y1) ∧ fs[86]? = some (.int y2) ∧ (z = 0 ∨ (z = 1 ∧ y1 = 0 ∧ y2 = 0)))
/-- what both have in common -/
def WC (o w om tl c : Nat) (ah : Int32) (dd : Nat → DD) (u : Nat → Nat) (L : List LE) (s : HWk) : Prop := om = w + 73 ∧ o < w ∧ tl ≤ 2000 ∧ (∀ i, u i < 256) ∧ WLg L ∧ ((c = 0 ∧ ah = -1 ∧ L = []) ∨ ∃ t, t < c ∧ ah = nI t ∧ WHs (dd t) s)
/-- the world behind j calls; k cells and n slots are used -/
def WLD (h : AH) (nx o w om j k n : Nat) : Prop := ∃ (tl c vb sb q : Nat) (fp ah : Int32) (da : Nat → Nat) (dd : Nat → DD) (u : Nat → Nat) (L : List LE) (s : HWk) (kn : Nat → Nat → Bool) (sc : Nat → Int32) (fs : List Value), WC o w om tl c ah dd u L s ∧ WX h nx o w tl fp c ah da dd vb q u L s kn sc ∧ WM h om fs tl fp c ah dd sb u L s ∧ vb ≤ 400 * j ∧ sb ≤ 300 * j ∧ k ≤ 138 + 60 * j + gC q ∧ n ≤ 454361 + 12000 * j + gS q
theorem WX.nxw {h : AH} {nx o w tl c vb q : Nat} {fp ah : Int32} {da : Nat → Nat} {dd : Nat → DD} {u : Nat → Nat} {L : List LE} {s : HWk} {kn : Nat → Nat → Bool} {sc : Nat → Int32} (H : WX h nx o w tl fp c ah da dd vb q u L s kn sc) : w + 137 ≤ nx ∧ QV q ∧ c ≤ 4 ∧ (∀ i, i < c → w + 137 ≤ da i ∧ da i + 29 ≤ nx) ∧ ∀ i j, i < j → j < c → da i + 29 ≤ da j := by
  obtain ⟨a, _, _, ⟨qa, tn, gq, gb, t1, t2, t3, t4, t5, t6, t7⟩, _⟩ := H
  exact ⟨t4.2.2, t5, a.2.2.1, fun i hi => ⟨(a.2.2.2.2.1 i hi).2.2, t7 i hi⟩, a.2.2.2.2.2.1⟩
theorem TRq.ag {h h' : AH} {w nx c q : Nat} {da : Nat → Nat} (H : TRq h w nx c da q) (hs : ∀ x, (x = w + 52 ∨ x = w + 58 ∨ x = w + 59 ∨ (w + 137 ≤ x ∧ ∀ i, i < c → x < da i ∨ da i + 29 ≤ x)) → h' x = h x) : TRq h' w nx c da q := by
  obtain ⟨qa, tn, gq, gb, t1, t2, t3, t4, t5, t6, t7⟩ := H
  refine ⟨qa, tn, gq, gb, (hs _ (by omega)).trans t1, (hs _ ?_).trans t2, (hs _ (by omega)).trans t3, t4, t5, t6, t7⟩
  rcases t4.1 with e | e
  · exact Or.inr (Or.inl e)
  · exact Or.inr (Or.inr (Or.inr ⟨e, t6⟩))
/-- a call that leaves x but for some of its parts: w + 43 .. w + 51 (the hut), the model -/
theorem WX.ag {h h' : AH} {nx o w tl c vb q : Nat} {fp ah : Int32} {da : Nat → Nat} {dd : Nat → DD} {u : Nat → Nat} {L : List LE} {s : HWk} {kn : Nat → Nat → Bool} {sc : Nat → Int32} (H : WX h nx o w tl fp c ah da dd vb q u L s kn sc) (hs : ∀ x, x < w + 73 ∨ w + 137 ≤ x → h' x = h x) (how : o < w) : WX h' nx o w tl fp c ah da dd vb q u L s kn sc := by
  obtain ⟨z1, z2, z3, z4, z5⟩ := H.nxw
  obtain ⟨a, b, c1, d, e, ⟨a0, f1, f2⟩, g, i, ⟨gt, j1, j2⟩, k, l⟩ := H
  refine ⟨a.ag (fun x hx => hs x (hx.elim (fun y => by omega) (fun y => y.elim (fun y => by omega) (fun y => y.elim (fun y => by omega) (fun ⟨t, t1, y⟩ => by have := z4 t t1; omega))))), b.ag (fun x _ _ => hs x (by omega)), c1.ag (fun x _ _ => hs x (by omega)), d.ag (fun x hx => hs x (by omega)), e.ag (fun x _ _ => hs x (by omega)), ⟨a0, f1.ag (fun x _ _ => hs x (by omega)), f2⟩, g.ag (fun x _ _ => hs x (by omega)), i.ag (fun x _ _ => hs x (by omega)), ⟨gt, (hs _ (by omega)).trans j1, j2⟩, fun t ht => ?_, fun h0 => (l h0).ag (fun x hx => hs x (by omega))⟩
  obtain ⟨y1, y2, y3, y4, y5⟩ := k t ht
  have := z4 t ht
  exact ⟨y1.ag (hs _ (by omega)), y2.ag (hs _ (by omega)), y3.ag (fun x _ _ => hs x (by omega)), y4.ag (hs _ (by omega)) (hs _ (by omega)), y5.ag (hs _ (by omega))⟩
theorem WX.nd {h : AH} {nx o w tl vb q : Nat} {fp : Int32} {da : Nat → Nat} {dd : Nat → DD} {u : Nat → Nat} {L : List LE} {s : HWk} {kn : Nat → Nat → Bool} {sc : Nat → Int32} (H : WX h nx o w tl fp 0 (-1) da dd vb q u L s kn sc) : ∃ (fs fb fi fw fl fv ft : List Value) (df : Nat → Option Nat) (g : Nat → Int32) (z : Int32), ND h o fs fb fi fw fl fv ft (w + 1) (w + 30) (w + 21) (w + 22) (w + 70) (w + 64) (w + 48) (w + 52) df g z (nI tl) := by
  obtain ⟨fb, fi, fw, fl, fv, ft, df, g, z, a1, a2, a3, a4, a5, a6, a7, a8, a9, a10, a11, a12, a13, a14, a15, a16, a17, a18, a19, a20⟩ := H.2.2.2.2.2.2.2.2.2.2 rfl
  exact ⟨_, fb, fi, fw, fl, fv, ft, df, g, z, H.1.1, rfl, rfl, rfl, rfl, rfl, rfl, rfl, rfl, rfl, a1, a2, a3, a4, a5, a6, a7, a8, a9, a10, a11, a12, a13, a14, a15, a16, a17, a18, a19, a20⟩
theorem WM.nm {h : AH} {o tl sb : Nat} {fs : List Value} {fp : Int32} {dd : Nat → DD} {u : Nat → Nat} {s : HWk} (H : WM h o fs tl fp 0 (-1) dd sb u [] s) : ∃ z y1 y2 : Int32, NM h o fs z y1 y2 (nI tl) := by
  obtain ⟨a1, a2, a3, a4, a5, ⟨a6, a7, a8⟩, a9, a10, a11, a12, a13, a14, a15, a16⟩ := H
  obtain ⟨b1, z, y1, y2, b2, b3, b4, b5⟩ := a16 rfl
  obtain ⟨_, _, _, _, _, _, _, _, l91, _⟩ := a14
  exact ⟨z, y1, y2, a1.1, a1.2.1, a6, a4.1, a8, b1, b2, b3, b4, l91, b5⟩
/-- a heap that is the same where the model lies -/
theorem WM.ag {h h' : AH} {o tl c sb : Nat} {fs : List Value} {fp ah : Int32} {dd : Nat → DD} {u : Nat → Nat} {L : List LE} {s : HWk} (H : WM h o fs tl fp c ah dd sb u L s) (hs : ∀ x, o ≤ x → x < o + 64 → h' x = h x) : WM h' o fs tl fp c ah dd sb u L s := by
  obtain ⟨a1, a2, a3, a4, a5, a6, a9, a10, ⟨g, a11, a11b⟩, a12, a13, a14, a15, a16⟩ := H
  have rr : ∀ j, j < 63 → h' (o + 1 + j) = h (o + 1 + j) := fun j hj => hs _ (by omega) (by omega)
  refine ⟨a1.keep (hs _ (by omega) (by omega)), a2.upd (fun j hj => Or.inl (rr j hj)), ?_, ⟨a4.1, a4.2.1, fun i hi => ⟨(a4.2.2 i hi).1.ag (fun j hj => rr j (by omega)), (a4.2.2 i hi).2⟩⟩, fun i hi => (a5 i hi).ag (fun j hj => rr j (by omega)), a6, a9, a10, ⟨g, (rr 0 (by decide)).trans a11, a11b⟩, by rw [rr 8 (by decide)]; exact a12, a13.ag (rr 51 (by decide)) rfl, a14.ag rfl (fun j h1 h2 => rr j (by omega)), fun t ht e => ?_, a16⟩
  · obtain ⟨gg, z1, z2⟩ := a3
    exact ⟨gg, (rr 6 (by decide)).trans z1, z2⟩
  · obtain ⟨b1, b2⟩ := a15 t ht e
    refine ⟨b1.ag rfl rfl rfl (fun j h1 h2 => rr j (by omega)), b2.imp id (fun ⟨x1, x2, x3, x4⟩ => ⟨x1, x2, x3, x4.ag (rr 53 (by decide)) (rr 54 (by decide))⟩)⟩
/-- the model behind a call that leaves what was read -/
theorem WM.up {h h1 : AH} {o tl c sb sb2 : Nat} {fs fs1 : List Value} {fp ah : Int32} {dd : Nat → DD} {u : Nat → Nat} {L L2 : List LE} {s s2 : HWk} (H : WM h o fs tl fp c ah dd sb u L s) (hM : MA h1 o fs1) (hS : SHm h1 o) (hf : ∀ k, k = 2 ∨ k = 16 ∨ k = 17 ∨ k = 18 ∨ k = 19 ∨ k = 49 → fs1[k]? = fs[k]?) (hr : ∀ j, j < 32 → h1 (o + 1 + j) = h (o + 1 + j)) (h1' : MSt h1 o fs1 sb2) (h2 : MLg h1 o fs1 L2) (h3 : ∀ t, t < c → ah = nI t → MHw h1 o fs1 (dd t) s2 ∧ (fs1[84]? = some (.int 0) ∨ rwK h1 o fs1 (dd t))) (hc : 0 < c) : WM h1 o fs1 tl fp c ah dd sb2 u L2 s2 := by
  obtain ⟨a1, a2, a3, a4, a5, ⟨a6, a7, a8⟩, ⟨v9, a9⟩, ⟨v10, a10⟩, ⟨g, a11, a11b⟩, a12, a13, a14, a15, a16⟩ := H
  refine ⟨hM, hS, ?_, ⟨(hf 18 (by omega)).trans a4.1, a4.2.1, fun i hi => ⟨(a4.2.2 i hi).1.ag (fun j hj => hr j (by omega)), (a4.2.2 i hi).2⟩⟩, fun i hi => (a5 i hi).ag (fun j hj => hr j (by omega)), ⟨(hf 2 (by omega)).trans a6, (hf 17 (by omega)).trans a7, (hf 19 (by omega)).trans a8⟩, ⟨v9, (hf 16 (by omega)).trans a9⟩, ⟨v10, (hf 49 (by omega)).trans a10⟩, ⟨g, (hr 0 (by decide)).trans a11, a11b⟩, by rw [hr 8 (by decide)]; exact a12, h1', h2, h3, fun h0 => by omega⟩
  obtain ⟨gg, z1, z2⟩ := a3
  exact ⟨gg, (hr 6 (by decide)).trans z1, z2⟩
section WMF
variable {h h1 : AH} {o tl c sb : Nat} {fs fs1 : List Value} {fp ah : Int32} {dd : Nat → DD} {u : Nat → Nat} {L : List LE} {s : HWk}
theorem rwK.ag {D : DD} (H : rwK h o fs D) (hf : ∀ k, k = 84 ∨ k = 85 ∨ k = 86 → fs1[k]? = fs[k]?) (h53 : h1 (o + 1 + 53) = h (o + 1 + 53)) (h54 : h1 (o + 1 + 54) = h (o + 1 + 54)) : rwK h1 o fs1 D := by
  obtain ⟨a, b, c, d⟩ := H
  exact ⟨(hf 84 (by omega)).trans a, (hf 85 (by omega)).trans b, (hf 86 (by omega)).trans c, d.ag h53 h54⟩
/-- frames that leave hand and suite, too -/
theorem WM.fr (H : WM h o fs tl fp c ah dd sb u L s) (hM : MA h1 o fs1) (hS : SHm h1 o) (hf : ∀ k, k = 2 ∨ k = 16 ∨ k = 17 ∨ k = 18 ∨ k = 19 ∨ k = 49 ∨ k = 50 ∨ k = 51 ∨ k = 55 ∨ k = 81 ∨ k = 84 ∨ k = 85 ∨ k = 86 ∨ k = 91 → fs1[k]? = fs[k]?) (hr : ∀ j, j < 35 ∨ (j = 51 ∨ j = 53 ∨ j = 54) ∨ (57 ≤ j ∧ j < 61) → h1 (o + 1 + j) = h (o + 1 + j)) (hc : 0 < c) : WM h1 o fs1 tl fp c ah dd sb u L s := by
  have H2 := H
  obtain ⟨a1, a2, a3, a4, a5, a6, a9, a10, a11, a12, a13, a14, a15, a16⟩ := H2
  refine H.up hM hS (fun k hk => hf k (by omega)) (fun j hj => hr j (by omega)) (a13.ag (hr 51 (by omega)) (hf 81 (by omega))) (a14.ag (hf 91 (by omega)) (fun j h1 h2 => hr j (by omega))) (fun t ht e => ?_) hc
  obtain ⟨b1, b2⟩ := a15 t ht e
  exact ⟨b1.ag (hf 50 (by omega)) (hf 51 (by omega)) (hf 55 (by omega)) (fun j h1 h2 => hr j (by omega)), b2.imp (fun z => (hf 84 (by omega)).trans z) (fun z => z.ag (fun k hk => hf k (by omega)) (hr 53 (by omega)) (hr 54 (by omega)))⟩
theorem WM.mh (H : WM h o fs tl fp c ah dd sb u L s) (R : MH h o fs h1 fs1) (hc : 0 < c) : WM h1 o fs1 tl fp c ah dd sb u L s := H.fr R.1 R.2.1 (fun k hk => R.2.2.1 k (by rcases hk with e | e | e | e | e | e | e | e | e | e | e | e | e | e <;> rw [e] <;> rfl)) (fun j hj => R.2.2.2 _ (by omega)) hc
theorem WM.mhp (H : WM h o fs tl fp c ah dd sb u L s) (R : MHp h o fs h1 fs1) (hc : 0 < c) : WM h1 o fs1 tl fp c ah dd sb u L s := H.fr R.1 R.2.1 (fun k hk => R.2.2.1 k (by rcases hk with e | e | e | e | e | e | e | e | e | e | e | e | e | e <;> rw [e] <;> rfl)) (fun j hj => R.2.2.2 _ (by omega)) hc
theorem WM.mco (H : WM h o fs tl fp c ah dd sb u L s) (R : MCo h o fs h1 fs1) (hc : 0 < c) : WM h1 o fs1 tl fp c ah dd sb u L s := H.fr R.1 R.2.1 (fun k hk => R.2.2.1 k (by rcases hk with e | e | e | e | e | e | e | e | e | e | e | e | e | e <;> rw [e] <;> rfl) (by omega)) (fun j hj => R.2.2.2 _ (by omega)) hc
theorem WM.mpn (H : WM h o fs tl fp c ah dd sb u L s) (R : MPn h o fs h1 fs1) (hc : 0 < c) : WM h1 o fs1 tl fp c ah dd sb u L s := H.fr R.1 R.2.1 (fun k hk => R.2.2.1 k (by rcases hk with e | e | e | e | e | e | e | e | e | e | e | e | e | e <;> rw [e] <;> rfl)) (fun j hj => R.2.2.2 _ (by omega)) hc
theorem WM.mtr {sb2 : Nat} (H : WM h o fs tl fp c ah dd sb u L s) (R : MTr h o fs h1 fs1) (hc : 0 < c) (hst : MSt h1 o fs1 sb2) : WM h1 o fs1 tl fp c ah dd sb2 u L s := by
  have H2 := H
  obtain ⟨a1, a2, a3, a4, a5, a6, a9, a10, a11, a12, a13, a14, a15, a16⟩ := H2
  have hf : ∀ k, k = 2 ∨ k = 16 ∨ k = 17 ∨ k = 18 ∨ k = 19 ∨ k = 49 ∨ k = 50 ∨ k = 51 ∨ k = 55 ∨ k = 84 ∨ k = 85 ∨ k = 86 ∨ k = 91 → fs1[k]? = fs[k]? := fun k hk => R.2.2.1 k (by rcases hk with e | e | e | e | e | e | e | e | e | e | e | e | e <;> rw [e] <;> rfl)
  have hr : ∀ j, j < 35 ∨ (j = 53 ∨ j = 54) ∨ (57 ≤ j ∧ j < 61) → h1 (o + 1 + j) = h (o + 1 + j) := fun j hj => R.2.2.2 _ (by omega)
  refine H.up R.1 R.2.1 (fun k hk => hf k (by omega)) (fun j hj => hr j (by omega)) hst (a14.ag (hf 91 (by omega)) (fun j h1 h2 => hr j (by omega))) (fun t ht e => ?_) hc
  obtain ⟨b1, b2⟩ := a15 t ht e
  exact ⟨b1.ag (hf 50 (by omega)) (hf 51 (by omega)) (hf 55 (by omega)) (fun j h1 h2 => hr j (by omega)), b2.imp (fun z => (hf 84 (by omega)).trans z) (fun z => z.ag (fun k hk => hf k (by omega)) (hr 53 (by omega)) (hr 54 (by omega)))⟩
theorem WM.msu {sb2 t0 : Nat} (H : WM h o fs tl fp c (nI t0) dd sb u L s) (R : MSu h o fs h1 fs1) (ht0 : t0 < c) (hc4 : c ≤ 4) (hst : MSt h1 o fs1 sb2) (hk : rwK h1 o fs1 (dd t0)) : WM h1 o fs1 tl fp c (nI t0) dd sb2 u L s := by
  have H2 := H
  obtain ⟨a1, a2, a3, a4, a5, a6, a9, a10, a11, a12, a13, a14, a15, a16⟩ := H2
  have hf : ∀ k, k = 2 ∨ k = 16 ∨ k = 17 ∨ k = 18 ∨ k = 19 ∨ k = 49 ∨ k = 50 ∨ k = 51 ∨ k = 55 ∨ k = 91 → fs1[k]? = fs[k]? := fun k hk => R.2.2.1 k (by rcases hk with e | e | e | e | e | e | e | e | e | e <;> rw [e] <;> rfl)
  have hr : ∀ j, j < 35 ∨ (57 ≤ j ∧ j < 61) → h1 (o + 1 + j) = h (o + 1 + j) := fun j hj => R.2.2.2 _ (by omega)
  refine H.up R.1 R.2.1 (fun k hk => hf k (by omega)) (fun j hj => hr j (by omega)) hst (a14.ag (hf 91 (by omega)) (fun j h1 h2 => hr j (by omega))) (fun t ht e => ?_) (by omega)
  obtain ⟨b1, b2⟩ := a15 t ht e
  have et : t0 = t := (nI_eq (by omega) (by omega)).mp e
  subst et
  exact ⟨b1.ag (hf 50 (by omega)) (hf 51 (by omega)) (hf 55 (by omega)) (fun j h1 h2 => hr j (by omega)), Or.inr hk⟩
theorem WM.mlo {L2 : List LE} (H : WM h o fs tl fp c ah dd sb u L s) (R : MLo h o fs h1 fs1) (hc : 0 < c) (hl : MLg h1 o fs1 L2) : WM h1 o fs1 tl fp c ah dd sb u L2 s := by
  have H2 := H
  obtain ⟨a1, a2, a3, a4, a5, a6, a9, a10, a11, a12, a13, a14, a15, a16⟩ := H2
  have hf : ∀ k, k ≠ 91 → fs1[k]? = fs[k]? := R.2.2.1
  have hr : ∀ j, j < 57 → h1 (o + 1 + j) = h (o + 1 + j) := fun j hj => R.2.2.2 _ (by omega)
  refine H.up R.1 R.2.1 (fun k hk => hf k (by omega)) (fun j hj => hr j (by omega)) (a13.ag (hr 51 (by omega)) (hf 81 (by omega))) hl (fun t ht e => ?_) hc
  obtain ⟨b1, b2⟩ := a15 t ht e
  exact ⟨b1.ag (hf 50 (by omega)) (hf 51 (by omega)) (hf 55 (by omega)) (fun j h1 h2 => hr j (by omega)), b2.imp (fun z => (hf 84 (by omega)).trans z) (fun z => z.ag (fun k hk => hf k (by omega)) (hr 53 (by omega)) (hr 54 (by omega)))⟩
theorem WM.mhd {s2 : HWk} {t0 : Nat} (H : WM h o fs tl fp c (nI t0) dd sb u L s) (R : MHd h o fs h1 fs1) (ht0 : t0 < c) (hc4 : c ≤ 4) (hw : MHw h1 o fs1 (dd t0) s2) : WM h1 o fs1 tl fp c (nI t0) dd sb u L s2 := by
  have H2 := H
  obtain ⟨a1, a2, a3, a4, a5, a6, a9, a10, a11, a12, a13, a14, a15, a16⟩ := H2
  have hf : ∀ k, k = 2 ∨ k = 16 ∨ k = 17 ∨ k = 18 ∨ k = 19 ∨ k = 49 ∨ k = 81 ∨ k = 84 ∨ k = 85 ∨ k = 86 ∨ k = 91 → fs1[k]? = fs[k]? := fun k hk => R.2.2.1 k (by rcases hk with e | e | e | e | e | e | e | e | e | e | e <;> rw [e] <;> rfl)
  have hr : ∀ j, j < 32 ∨ (j = 51 ∨ j = 53 ∨ j = 54) ∨ (57 ≤ j ∧ j < 61) → h1 (o + 1 + j) = h (o + 1 + j) := fun j hj => R.2.2.2 _ (by omega)
  refine H.up R.1 R.2.1 (fun k hk => hf k (by omega)) (fun j hj => hr j (by omega)) (a13.ag (hr 51 (by omega)) (hf 81 (by omega))) (a14.ag (hf 91 (by omega)) (fun j h1 h2 => hr j (by omega))) (fun t ht e => ?_) (by omega)
  obtain ⟨b1, b2⟩ := a15 t ht e
  have et : t0 = t := (nI_eq (by omega) (by omega)).mp e
  subst et
  exact ⟨hw, b2.imp (fun z => (hf 84 (by omega)).trans z) (fun z => z.ag (fun k hk => hf k (by omega)) (hr 53 (by omega)) (hr 54 (by omega)))⟩
end WMF
/-- x behind a call: what it leaves, what it tells anew -/
theorem WX.core {h h' : AH} {nx nx2 o w tl c t vb vb2 q q2 a : Nat} {fp sct : Int32} {da : Nat → Nat} {dd : Nat → DD} {u : Nat → Nat} {L L2 : List LE} {s s2 : HWk} {kn : Nat → Nat → Bool} {knt : Nat → Bool} {sc : Nat → Int32} (H : WX h nx o w tl fp c (nI t) da dd vb q u L s kn sc) (ht : t < c) (how : o < w) (hs : ∀ x, x < w + 43 ∨ (∃ i, i < c ∧ da i ≤ x ∧ x < da i + 29 ∧ (x < da t + 20 ∨ da t + 27 ≤ x)) → h' x = h x) (b : XH h' w c da dd vb2) (c1 : XS2 h' w c da dd vb2) (d : TRq h' w nx2 c da q2) (e : XLg h' w L2) (f : XHw h' w a s2) (fa : a = da t) (g : XPl h' w c da dd) (hF : FO h' (da t) sct ∧ FA h' (da t) (dd t) ∧ FP h' (da t) (dd t) ∧ FLk h' (da t) (dd t) knt ∧ FS h' (da t) (dd t) sct) : WX h' nx2 o w tl fp c (nI t) da dd vb2 q2 u L2 s2 (fun i => if i = t then knt else kn i) (fun i => if i = t then sct else sc i) := by
  obtain ⟨z1, z2, z3, z4, z5⟩ := H.nxw
  obtain ⟨A, _, _, _, _, _, _, i, ⟨gt, j1, j2⟩, k, _⟩ := H
  have away : ∀ i, i < c → i ≠ t → ∀ x, da i ≤ x → x < da i + 29 → h' x = h x := fun i hi hne x x1 x2 => hs x (Or.inr ⟨i, hi, x1, x2, by
    rcases Nat.lt_or_ge i t with y | y
    · have := z5 i t y ht; omega
    · have := z5 t i (by omega) hi; omega⟩)
  refine ⟨A.ag (fun x hx => ?_), b, c1, d, e, ⟨a, f, fun t2 ht2 et => ?_⟩, g, i.ag (fun x _ _ => hs x (Or.inl (by omega))), ⟨gt, (hs _ (Or.inl (by omega))).trans j1, j2⟩, fun i hi => ?_, fun h0 => by omega⟩
  · rcases hx with y | y | y | ⟨i, hi, y⟩
    · exact hs x (Or.inl (by omega))
    · exact hs x (Or.inl (by omega))
    · exact hs x (Or.inl (by omega))
    · by_cases ei : i = t
      · subst ei
        exact hs x (Or.inr ⟨i, hi, by omega, by omega, by omega⟩)
      · exact away i hi ei x (by omega) (by omega)
  · have : t = t2 := (nI_eq (by omega) (by omega)).mp et
    rw [← this]; exact fa
  · by_cases ei : i = t
    · subst ei
      show FO h' (da i) (if i = i then sct else sc i) ∧ FA h' (da i) (dd i) ∧ FP h' (da i) (dd i) ∧ FLk h' (da i) (dd i) (if i = i then knt else kn i) ∧ FS h' (da i) (dd i) (if i = i then sct else sc i)
      rw [if_pos rfl, if_pos rfl]
      exact hF
    · show FO h' (da i) (if i = t then sct else sc i) ∧ FA h' (da i) (dd i) ∧ FP h' (da i) (dd i) ∧ FLk h' (da i) (dd i) (if i = t then knt else kn i) ∧ FS h' (da i) (dd i) (if i = t then sct else sc i)
      rw [if_neg ei, if_neg ei]
      obtain ⟨y1, y2, y3, y4, y5⟩ := k i hi
      have aw := away i hi ei
      exact ⟨y1.ag (aw _ (by omega) (by omega)), y2.ag (aw _ (by omega) (by omega)), y3.ag (fun x _ _ => aw x (by omega) (by omega)), y4.ag (aw _ (by omega) (by omega)) (aw _ (by omega) (by omega)), y5.ag (aw _ (by omega) (by omega))⟩
section WXF
variable {h h' : AH} {nx o w tl c t vb vb2 q : Nat} {fp : Int32} {da : Nat → Nat} {dd : Nat → DD} {u : Nat → Nat} {L L2 : List LE} {s s2 : HWk} {kn : Nat → Nat → Bool} {sc : Nat → Int32}
theorem WX.hut (H : WX h nx o w tl fp c (nI t) da dd vb q u L s kn sc) (ht : t < c) (how : o < w) (hs : ∀ x, x < w + 43 ∨ w + 52 ≤ x → h' x = h x) (b : XH h' w c da dd vb2) (hv : vb ≤ vb2) : ∃ kn2 sc2, WX h' nx o w tl fp c (nI t) da dd vb2 q u L s kn2 sc2 := by
  obtain ⟨z1, z2, z3, z4, z5⟩ := H.nxw
  have H2 := H
  obtain ⟨A, _, c1, d, e, ⟨a0, f1, f2⟩, g, i, j, k, _⟩ := H2
  obtain ⟨y1, y2, y3, y4, y5⟩ := k t ht
  have := z4 t ht
  exact ⟨_, _, H.core ht how (fun x hx => hs x (hx.elim (fun y => by omega) (fun ⟨i, hi, y1, _⟩ => by have := z4 i hi; omega))) b ((c1.ag (fun x _ _ => hs x (by omega))).le hv) (d.ag (fun x hx => hs x (by omega))) (e.ag (fun x _ _ => hs x (by omega))) (f1.ag (fun x _ _ => hs x (by omega))) (f2 t ht rfl) (g.ag (fun x _ _ => hs x (by omega))) ⟨y1.ag (hs _ (by omega)), y2.ag (hs _ (by omega)), y3.ag (fun x _ _ => hs x (by omega)), y4.ag (hs _ (by omega)) (hs _ (by omega)), y5.ag (hs _ (by omega))⟩⟩
theorem WX.fnd (H : WX h nx o w tl fp c (nI t) da dd vb q u L s kn sc) (ht : t < c) (how : o < w) (hs : ∀ x, x < w + 43 ∨ w + 52 ≤ x → (x < da t + 21 ∨ da t + 24 ≤ x) → h' x = h x) (b : XH h' w c da dd vb2) (hv : vb ≤ vb2) (hA : FA h' (da t) (dd t)) (hP : FP h' (da t) (dd t)) : ∃ kn2 sc2, WX h' nx o w tl fp c (nI t) da dd vb2 q u L s kn2 sc2 := by
  obtain ⟨z1, z2, z3, z4, z5⟩ := H.nxw
  have H2 := H
  obtain ⟨A, _, c1, d, e, ⟨a0, f1, f2⟩, g, i, j, k, _⟩ := H2
  obtain ⟨y1, y2, y3, y4, y5⟩ := k t ht
  have := z4 t ht
  refine ⟨_, _, H.core ht how (fun x hx => hs x (hx.elim (fun y => by omega) (fun ⟨i, hi, y1, _⟩ => by have := z4 i hi; omega)) (by rcases hx with y | ⟨i, hi, y1, y2, y3⟩ <;> omega)) b ((c1.ag (fun x _ _ => hs x (by omega) (by omega))).le hv) (d.ag (fun x hx => hs x (by omega) ?_)) (e.ag (fun x _ _ => hs x (by omega) (by omega))) (f1.ag (fun x _ _ => hs x (by omega) (by omega))) (f2 t ht rfl) (g.ag (fun x _ _ => hs x (by omega) (by omega))) ⟨y1.ag (hs _ (by omega) (by omega)), hA, hP, y4.ag (hs _ (by omega) (by omega)) (hs _ (by omega) (by omega)), y5.ag (hs _ (by omega) (by omega))⟩⟩
  rcases hx with y | y | y | ⟨y, y2⟩
  · omega
  · omega
  · omega
  · have := y2 t ht
    omega
theorem WX.lst {nx2 q2 : Nat} {lo hi : Nat} {knt : Nat → Bool} {sct : Int32} (H : WX h nx o w tl fp c (nI t) da dd vb q u L s kn sc) (ht : t < c) (how : o < w) (hlo : da t + 20 ≤ lo) (hhi : hi ≤ da t + 27) (hs : FWl h h' w c da lo hi) (b : XH h' w c da dd vb2) (c1 : XS2 h' w c da dd vb2) (d : TRq h' w nx2 c da q2) (hF : FO h' (da t) sct ∧ FA h' (da t) (dd t) ∧ FP h' (da t) (dd t) ∧ FLk h' (da t) (dd t) knt ∧ FS h' (da t) (dd t) sct) : ∃ kn2 sc2, WX h' nx2 o w tl fp c (nI t) da dd vb2 q2 u L s kn2 sc2 := by
  obtain ⟨z1, z2, z3, z4, z5⟩ := H.nxw
  have H2 := H
  obtain ⟨A, _, _, _, e, ⟨a0, f1, f2⟩, g, i, j, k, _⟩ := H2
  have := z4 t ht
  refine ⟨_, _, H.core ht how (fun x hx => hs x ?_ ?_) b c1 d (e.ag (fun x _ _ => hs x (Or.inr (Or.inl (by omega))) (by omega))) (f1.ag (fun x _ _ => hs x (Or.inr (Or.inl (by omega))) (by omega))) (f2 t ht rfl) (g.ag (fun x _ _ => hs x (Or.inr (Or.inl (by omega))) (by omega))) hF⟩
  · rcases hx with y | ⟨i, hi, y1, y2, _⟩
    · exact Or.inl y
    · exact Or.inr (Or.inr ⟨i, hi, y1, y2⟩)
  · rcases hx with y | ⟨i, hi, y1, y2, y3⟩ <;> omega
theorem WX.pln (H : WX h nx o w tl fp c (nI t) da dd vb q u L s kn sc) (ht : t < c) (how : o < w) (hs : ∀ x, x < w + 43 ∨ (w + 52 ≤ x ∧ x < w + 60) ∨ w + 64 ≤ x → h' x = h x) (b : XH h' w c da dd vb2) (hv : vb ≤ vb2) (g : XPl h' w c da dd) : ∃ kn2 sc2, WX h' nx o w tl fp c (nI t) da dd vb2 q u L s kn2 sc2 := by
  obtain ⟨z1, z2, z3, z4, z5⟩ := H.nxw
  have H2 := H
  obtain ⟨A, _, c1, d, e, ⟨a0, f1, f2⟩, _, i, j, k, _⟩ := H2
  obtain ⟨y1, y2, y3, y4, y5⟩ := k t ht
  have := z4 t ht
  exact ⟨_, _, H.core ht how (fun x hx => hs x (hx.elim (fun y => by omega) (fun ⟨i, hi, y1, _⟩ => by have := z4 i hi; omega))) b ((c1.ag (fun x _ _ => hs x (by omega))).le hv) (d.ag (fun x hx => hs x (by omega))) (e.ag (fun x _ _ => hs x (by omega))) (f1.ag (fun x _ _ => hs x (by omega))) (f2 t ht rfl) g ⟨y1.ag (hs _ (by omega)), y2.ag (hs _ (by omega)), y3.ag (fun x _ _ => hs x (by omega)), y4.ag (hs _ (by omega)) (hs _ (by omega)), y5.ag (hs _ (by omega))⟩⟩
theorem WX.lgs (H : WX h nx o w tl fp c (nI t) da dd vb q u L s kn sc) (ht : t < c) (how : o < w) (hs : ∀ x, x < w + 64 ∨ w + 70 ≤ x → h' x = h x) (e : XLg h' w L2) : ∃ kn2 sc2, WX h' nx o w tl fp c (nI t) da dd vb q u L2 s kn2 sc2 := by
  obtain ⟨z1, z2, z3, z4, z5⟩ := H.nxw
  have H2 := H
  obtain ⟨A, b, c1, d, _, ⟨a0, f1, f2⟩, g, i, j, k, _⟩ := H2
  obtain ⟨y1, y2, y3, y4, y5⟩ := k t ht
  have := z4 t ht
  exact ⟨_, _, H.core ht how (fun x hx => hs x (hx.elim (fun y => by omega) (fun ⟨i, hi, y1, _⟩ => by have := z4 i hi; omega))) (b.ag (fun x _ _ => hs x (by omega))) (c1.ag (fun x _ _ => hs x (by omega))) (d.ag (fun x hx => hs x (by omega))) e (f1.ag (fun x _ _ => hs x (by omega))) (f2 t ht rfl) (g.ag (fun x _ _ => hs x (by omega))) ⟨y1.ag (hs _ (by omega)), y2.ag (hs _ (by omega)), y3.ag (fun x _ _ => hs x (by omega)), y4.ag (hs _ (by omega)) (hs _ (by omega)), y5.ag (hs _ (by omega))⟩⟩
theorem WX.nxt (H : WX h nx o w tl fp c (nI t) da dd vb q u L s kn sc) (ht : t < c) (how : o < w) (hs : ∀ x, x < w + 43 ∨ (w + 52 ≤ x ∧ x ≠ w + 69) → h' x = h x) (b : XH h' w c da dd vb2) (hv : vb ≤ vb2) (e : XLg h' w L) : ∃ kn2 sc2, WX h' nx o w tl fp c (nI t) da dd vb2 q u L s kn2 sc2 := by
  obtain ⟨z1, z2, z3, z4, z5⟩ := H.nxw
  have H2 := H
  obtain ⟨A, _, c1, d, _, ⟨a0, f1, f2⟩, g, i, j, k, _⟩ := H2
  obtain ⟨y1, y2, y3, y4, y5⟩ := k t ht
  have := z4 t ht
  exact ⟨_, _, H.core ht how (fun x hx => hs x (hx.elim (fun y => by omega) (fun ⟨i, hi, y1, _⟩ => by have := z4 i hi; omega))) b ((c1.ag (fun x _ _ => hs x (by omega))).le hv) (d.ag (fun x hx => hs x (by omega))) e (f1.ag (fun x _ _ => hs x (by omega))) (f2 t ht rfl) (g.ag (fun x _ _ => hs x (by omega))) ⟨y1.ag (hs _ (by omega)), y2.ag (hs _ (by omega)), y3.ag (fun x _ _ => hs x (by omega)), y4.ag (hs _ (by omega)) (hs _ (by omega)), y5.ag (hs _ (by omega))⟩⟩
theorem WX.hnd {a : Nat} (H : WX h nx o w tl fp c (nI t) da dd vb q u L s kn sc) (ht : t < c) (how : o < w) (hs : ∀ x, x < w + 70 ∨ w + 73 ≤ x → h' x = h x) (f : XHw h' w a s2) (fa : a = da t) : ∃ kn2 sc2, WX h' nx o w tl fp c (nI t) da dd vb q u L s2 kn2 sc2 := by
  obtain ⟨z1, z2, z3, z4, z5⟩ := H.nxw
  have H2 := H
  obtain ⟨A, b, c1, d, e, _, g, i, j, k, _⟩ := H2
  obtain ⟨y1, y2, y3, y4, y5⟩ := k t ht
  have := z4 t ht
  exact ⟨_, _, H.core ht how (fun x hx => hs x (hx.elim (fun y => by omega) (fun ⟨i, hi, y1, _⟩ => by have := z4 i hi; omega))) (b.ag (fun x _ _ => hs x (by omega))) (c1.ag (fun x _ _ => hs x (by omega))) (d.ag (fun x hx => hs x (by omega))) (e.ag (fun x _ _ => hs x (by omega))) f fa (g.ag (fun x _ _ => hs x (by omega))) ⟨y1.ag (hs _ (by omega)), y2.ag (hs _ (by omega)), y3.ag (fun x _ _ => hs x (by omega)), y4.ag (hs _ (by omega)) (hs _ (by omega)), y5.ag (hs _ (by omega))⟩⟩
end WXF
