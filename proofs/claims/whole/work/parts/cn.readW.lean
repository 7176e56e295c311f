/-! use and read out of the world -/
theorem fltN_1 {u : Nat → Nat} {n N f q f2 q2 : Nat} (a : fltN u n N f q) (b : fltN u n N f2 q2) : f = f2 ∧ q = q2 := by
  rcases a with ⟨a1, a2, a3⟩ | ⟨a1, i, hi, i1, i2, a2, a3⟩ <;> rcases b with ⟨b1, b2, b3⟩ | ⟨b1, j, hj, j1, j2, b2, b3⟩
  · exact ⟨a2.trans b2.symm, a3.trans b3.symm⟩
  · exact absurd b1 a1
  · exact absurd a1 b1
  · have e : i = j := by
      rcases Nat.lt_trichotomy i j with z | z | z
      · exact absurd (j2 i z) i1
      · exact z
      · exact absurd (i2 j z) j1
    subst e
    exact ⟨a2.trans b2.symm, a3.trans b3.symm⟩
theorem fltN_no {u : Nat → Nat} {n N f q : Nat} (a : fltN u n N f q) (h0 : zFt (kdN u n) N = 0) (hF : ∀ i, i < N → fX (kdN u n) (vaN u n) N i = 0) : False := by
  rcases a with ⟨a1, _⟩ | ⟨_, i, hi, i1, _⟩
  · exact a1 h0
  · exact i1 (hF i hi)
theorem WX.use {h h1 : AH} {nx o w tl c vb q t : Nat} {fp ah : Int32} {da : Nat → Nat} {dd : Nat → DD} {u : Nat → Nat} {L : List LE} {s : HWk} {kn : Nat → Nat → Bool} {sc : Nat → Int32} (H : WX h nx o w tl fp c ah da dd vb q u L s kn sc) (ht : t < c) (how : o < w) (hs : ∀ x, x ≠ o → x < w + 70 ∨ w + 73 ≤ x → h1 x = h x) (hA : XA h1 o w tl fp c (nI t) da dd) (hW : XHw h1 w (da t) hw0) : WX h1 nx o w tl fp c (nI t) da dd vb q u L hw0 kn sc := by
  obtain ⟨z1, z2, z3, z4, z5⟩ := H.nxw
  obtain ⟨_, b, c1, d, e, _, g, i, ⟨gt, j1, j2⟩, k, _⟩ := H
  refine ⟨hA, b.ag (fun x _ _ => hs x (by omega) (by omega)), c1.ag (fun x _ _ => hs x (by omega) (by omega)), d.ag (fun x hx => hs x (by omega) (by omega)), e.ag (fun x _ _ => hs x (by omega) (by omega)), ⟨_, hW, fun t2 ht2 e2 => ?_⟩, g.ag (fun x _ _ => hs x (by omega) (by omega)), i.ag (fun x _ _ => hs x (by omega) (by omega)), ⟨gt, (hs _ (by omega) (by omega)).trans j1, j2⟩, fun t ht => ?_, fun h0 => by omega⟩
  · rw [show t = t2 from (nI_eq (by omega) (by omega)).mp e2]
  · obtain ⟨y1, y2, y3, y4, y5⟩ := k t ht
    have := z4 t ht
    exact ⟨y1.ag (hs _ (by omega) (by omega)), y2.ag (hs _ (by omega) (by omega)), y3.ag (fun x _ _ => hs x (by omega) (by omega)), y4.ag (hs _ (by omega) (by omega)) (hs _ (by omega) (by omega)), y5.ag (hs _ (by omega) (by omega))⟩
theorem cmF_84 {fs : List Value} {d : Int32} (hl : fs.length = 99) : (cmF fs d)[84]? = some (.int 0) := by
  unfold cmF
  rw [get_set_ne (by decide), get_set_ne (by decide), get_set_ne (by decide)]
  exact get_set (by rw [List.length_set, hl]; decide)
theorem cmF_d {fs : List Value} {d : Int32} (hl : fs.length = 99) : (cmF fs d)[19]? = some (.int d) := by
  unfold cmF
  rw [get_set_ne (by decide), get_set_ne (by decide), get_set_ne (by decide), get_set_ne (by decide)]
  exact get_set (by rw [hl]; decide)
theorem WM.use {h h1 : AH} {o tl c sb t : Nat} {fs : List Value} {fp ah : Int32} {dd : Nat → DD} {u : Nat → Nat} {L : List LE} {s : HWk} (H : WM h o fs tl fp c ah dd sb u L s) (ht : t < c) (hM : MA h1 o (cmF fs (nI t))) (hS : SHm h1 o) (hH : ∀ D : DD, dR D ≤ 6 → MHw h1 o (cmF fs (nI t)) D hw0) (hs : ∀ x, x ≠ o → (x < o + 1 + 32 ∨ o + 1 + 35 ≤ x) → h1 x = h x) : WM h1 o (cmF fs (nI t)) tl fp c (nI t) dd sb u L hw0 := by
  obtain ⟨a1, a2, a3, a4, a5, ⟨a6, a7, a8⟩, ⟨v9, a9⟩, ⟨v10, a10⟩, ⟨g, a11, a11b⟩, a12, a13, a14, a15, a16⟩ := H
  have rr : ∀ j, j < 32 ∨ 35 ≤ j → h1 (o + 1 + j) = h (o + 1 + j) := fun j hj => hs _ (by omega) (by omega)
  refine ⟨hM, hS, ?_, ⟨(cmF_k (by decide)).trans a4.1, a4.2.1, fun i hi => ⟨(a4.2.2 i hi).1.ag (fun j hj => rr j (by omega)), (a4.2.2 i hi).2⟩⟩, fun i hi => (a5 i hi).ag (fun j hj => rr j (by omega)), ⟨(cmF_k (by decide)).trans a6, (cmF_k (by decide)).trans a7, cmF_d a1.2.1⟩, ⟨v9, (cmF_k (by decide)).trans a9⟩, ⟨v10, (cmF_k (by decide)).trans a10⟩, ⟨g, (rr 0 (by decide)).trans a11, a11b⟩, by rw [rr 8 (by decide)]; exact a12, a13.ag (rr 51 (by decide)) (cmF_k (by decide)), a14.ag (cmF_k (by decide)) (fun j h1 h2 => rr j (by omega)), fun t2 ht2 _ => ⟨hH _ (a4.2.2 t2 ht2).2.r, Or.inl (cmF_84 a1.2.1)⟩, fun h0 => by omega⟩
  obtain ⟨gg, z1, z2⟩ := a3
  exact ⟨gg, (rr 6 (by decide)).trans z1, z2⟩
/-- a reading that finds a fault, or no place -/
theorem WX.flt {h h1 : AH} {nx o w tl c vb q : Nat} {fp fp2 ah : Int32} {da : Nat → Nat} {dd : Nat → DD} {u : Nat → Nat} {L : List LE} {s : HWk} {kn : Nat → Nat → Bool} {sc : Nat → Int32} (H : WX h nx o w tl fp c ah da dd vb q u L s kn sc) (how : o < w) (hs : ∀ x, x ≠ o → x < w + 31 ∨ w + 43 ≤ x → h1 x = h x) (hA : XA h1 o w 0 fp2 c ah da dd) (hR : XRd h1 (w + 31)) : WX h1 nx o w 0 fp2 c ah da dd vb q u L s kn sc := by
  obtain ⟨z1, z2, z3, z4, z5⟩ := H.nxw
  obtain ⟨_, b, c1, d, e, ⟨a0, f1, f2⟩, g, i, ⟨gt, j1, j2⟩, k, l⟩ := H
  refine ⟨hA, b.ag (fun x _ _ => hs x (by omega) (by omega)), c1.ag (fun x _ _ => hs x (by omega) (by omega)), d.ag (fun x hx => hs x (by omega) (by omega)), e.ag (fun x _ _ => hs x (by omega) (by omega)), ⟨a0, f1.ag (fun x _ _ => hs x (by omega) (by omega)), f2⟩, g.ag (fun x _ _ => hs x (by omega) (by omega)), hR, ⟨gt, (hs _ (by omega) (by omega)).trans j1, fun i hi => absurd hi (Nat.not_lt_zero i)⟩, fun t ht => ?_, fun h0 => (l h0).ag (fun x hx => hs x (by omega) (by omega))⟩
  obtain ⟨y1, y2, y3, y4, y5⟩ := k t ht
  have := z4 t ht
  exact ⟨y1.ag (hs _ (by omega) (by omega)), y2.ag (hs _ (by omega) (by omega)), y3.ag (fun x _ _ => hs x (by omega) (by omega)), y4.ag (hs _ (by omega) (by omega)) (hs _ (by omega) (by omega)), y5.ag (hs _ (by omega) (by omega))⟩
theorem WM.flt {h h1 : AH} {o tl c sb : Nat} {fs fs1 : List Value} {fp fp2 ah : Int32} {dd : Nat → DD} {u : Nat → Nat} {L : List LE} {s : HWk} (H : WM h o fs tl fp c ah dd sb u L s) (R : MRx o c h fs h1 fs1) (f17 : fs1[17]? = some (.int fp2)) : WM h1 o fs1 0 fp2 c ah dd sb u L s := by
  obtain ⟨a1, a2, a3, a4, a5, ⟨a6, a7, a8⟩, ⟨v9, a9⟩, ⟨v10, a10⟩, ⟨g, a11, a11b⟩, a12, a13, a14, a15, a16⟩ := H
  obtain ⟨r1, r2, r3, r4, r5, r6, r7, r8, r9⟩ := R
  have old : ∀ i, i < c → MPg h1 o i (dd i) ∧ MPx h1 o i (dd i) := fun i hi => MPg.old (a4.2.2 i hi).1 (a5 i hi) (a4.2.2 i hi).2 hi r8
  have rr : ∀ j, j = 0 ∨ j = 6 ∨ 32 ≤ j → h1 (o + 1 + j) = h (o + 1 + j) := fun j hj => r7 _ (by omega) (by omega)
  refine ⟨r1, r2, ?_, ⟨(r3 18 (by decide)).trans a4.1, a4.2.1, fun i hi => ⟨(old i hi).1, (a4.2.2 i hi).2⟩⟩, fun i hi => (old i hi).2, ⟨r4, f17, (r3 19 (by decide)).trans a8⟩, r5, r6, ⟨g, (rr 0 (by decide)).trans a11, fun i hi => absurd hi (Nat.not_lt_zero i)⟩, r9 a12, a13.ag (rr 51 (by decide)) (r3 81 (by decide)), a14.ag (r3 91 (by decide)) (fun j h1 h2 => rr j (by omega)), fun t ht e => ?_, fun h0 => ?_⟩
  · obtain ⟨gg, z1, z2⟩ := a3
    exact ⟨gg, (rr 6 (by decide)).trans z1, z2⟩
  · obtain ⟨b1, b2⟩ := a15 t ht e
    exact ⟨b1.ag (r3 50 (by decide)) (r3 51 (by decide)) (r3 55 (by decide)) (fun j h1 h2 => rr j (by omega)), b2.imp (fun z => (r3 84 (by decide)).trans z) (fun z => z.ag (fun k hk => r3 k (by omega)) (rr 53 (by decide)) (rr 54 (by decide)))⟩
  · obtain ⟨b1, z, y1, y2, b2, b3, b4, b5⟩ := a16 h0
    exact ⟨(r3 55 (by decide)).trans b1, z, y1, y2, (r3 84 (by decide)).trans b2, (r3 85 (by decide)).trans b3, (r3 86 (by decide)).trans b4, b5⟩
/-- a reading that makes a drawing -/
theorem isDr.mono {w c c2 a : Nat} {da da2 : Nat → Nat} {dd dd2 : Nat → DD} {D : DD} (H : isDr w c da dd a D) (hc : c ≤ c2) (h1 : ∀ i, i < c → da2 i = da i) (h2 : ∀ i, i < c → dd2 i = dd i) : isDr w c2 da2 dd2 a D := by
  rcases H with e | ⟨i, hi, e1, e2⟩
  · exact Or.inl e
  · exact Or.inr ⟨i, by omega, e1.trans (h1 i hi).symm, e2.trans (h2 i hi).symm⟩
theorem WX.drw {h h1 : AH} {nx o w tl c vb q : Nat} {fp ah : Int32} {da : Nat → Nat} {dd : Nat → DD} {D : DD} {u : Nat → Nat} {L : List LE} {s : HWk} {kn : Nat → Nat → Bool} {sc : Nat → Int32} (H : WX h nx o w tl fp c ah da dd vb q u L s kn sc) (how : o < w) (hs : ∀ x, x < nx → x ≠ o → x ≠ w + 30 → x < w + 31 ∨ w + 43 ≤ x → x < w + 70 ∨ w + 73 ≤ x → h1 x = h x) (hA : XA h1 o w 0 (-1) (c + 1) (nI c) (fun i => if i = c then nx else da i) (fun i => if i = c then D else dd i)) (hR : XRd h1 (w + 31)) (hW : XHw h1 w nx hw0) (hF : FD0 h1 nx) : WX h1 (nx + 41) o w 0 (-1) (c + 1) (nI c) (fun i => if i = c then nx else da i) (fun i => if i = c then D else dd i) vb q u L hw0 (fun i => if i = c then fun _ => false else kn i) (fun i => if i = c then -1 else sc i) := by
  obtain ⟨z1, z2, z3, z4, z5⟩ := H.nxw
  obtain ⟨_, b, c1, ⟨qa, tn, gq, gb, t1, t2, t3, t4, t5, t6, t7⟩, e, _, g, _, ⟨gt, j1, j2⟩, k, _⟩ := H
  have ed : ∀ i, i < c → (fun i => if i = c then nx else da i) i = da i := fun i hi => if_neg (by omega)
  have eD : ∀ i, i < c → (fun i => if i = c then D else dd i) i = dd i := fun i hi => if_neg (by omega)
  have hb : XH h1 w c da dd vb := b.ag (fun x _ _ => hs x (by omega) (by omega) (by omega) (by omega) (by omega))
  have hc1 : XS2 h1 w c da dd vb := c1.ag (fun x _ _ => hs x (by omega) (by omega) (by omega) (by omega) (by omega))
  have hg : XPl h1 w c da dd := g.ag (fun x _ _ => hs x (by omega) (by omega) (by omega) (by omega) (by omega))
  obtain ⟨m1, m2, m3⟩ := id t4
  refine ⟨hA, ?_, ?_, ?_, e.ag (fun x _ _ => hs x (by omega) (by omega) (by omega) (by omega) (by omega)), ⟨nx, hW, fun t ht et => ?_⟩, ?_, hR, ⟨gt, (hs _ (by omega) (by omega) (by omega) (by omega) (by omega)).trans j1, fun i hi => absurd hi (Nat.not_lt_zero i)⟩, fun i hi => ?_, fun h0 => absurd h0 (Nat.succ_ne_zero c)⟩
  · obtain ⟨q1, a, b1, ver, x1, x2, x3, x4, x5, x6⟩ := hb
    exact ⟨q1, a, b1, ver, x1, x2, x3.mono (Nat.le_succ c) ed eD, x4.mono (Nat.le_succ c) ed eD, x5, x6⟩
  · obtain ⟨q1, a, b1, ver, x1, x2, x3, x4, x5⟩ := hc1
    exact ⟨q1, a, b1, ver, x1, x2, x3.mono (Nat.le_succ c) ed eD, x4.mono (Nat.le_succ c) ed eD, x5⟩
  · refine ⟨qa, tn, gq, gb, (hs _ (by omega) (by omega) (by omega) (by omega) (by omega)).trans t1, (hs _ (by omega) (by omega) (by omega) (by omega) (by omega)).trans t2, (hs _ (by omega) (by omega) (by omega) (by omega) (by omega)).trans t3, ⟨m1, by omega, by omega⟩, t5, fun i hi => ?_, fun i hi => ?_⟩
    · by_cases ei : i = c
      · show qa < (if i = c then nx else da i) ∨ (if i = c then nx else da i) + 29 ≤ qa
        rw [if_pos ei]; exact Or.inl m2
      · show qa < (if i = c then nx else da i) ∨ (if i = c then nx else da i) + 29 ≤ qa
        rw [if_neg ei]; exact t6 i (by omega)
    · by_cases ei : i = c
      · show (if i = c then nx else da i) + 29 ≤ nx + 41
        rw [if_pos ei]; omega
      · show (if i = c then nx else da i) + 29 ≤ nx + 41
        rw [if_neg ei]
        have := t7 i (by omega)
        omega
  · have e2 : c = t := (nI_eq (by omega) (by have := hA.2.2.1; omega)).mp et
    exact (if_pos e2.symm).symm
  · obtain ⟨r1, r2, mst, cnt, g1, g2, g3, x1, x2, x3, x4, x5⟩ := hg
    refine ⟨r1, r2, mst, cnt, g1, g2, g3, x1, x2, x3, x4, ?_⟩
    rcases x5 with y | ⟨i, j, hi, hj, y1, y2, y3⟩
    · exact Or.inl y
    · refine Or.inr ⟨i, j, by omega, by omega, ?_, ?_, ?_⟩
      · rw [ed i hi]; exact y1
      · rw [ed j hj]; exact y2
      · rw [eD i hi, eD j hj]; exact y3
  · by_cases ei : i = c
    · subst ei
      obtain ⟨f0, f1, f2, f3, f4, f5, f6⟩ := hF
      show FO h1 (if i = i then nx else da i) (if i = i then -1 else sc i) ∧ FA h1 (if i = i then nx else da i) (if i = i then D else dd i) ∧ FP h1 (if i = i then nx else da i) (if i = i then D else dd i) ∧ FLk h1 (if i = i then nx else da i) (if i = i then D else dd i) (if i = i then fun _ => false else kn i) ∧ FS h1 (if i = i then nx else da i) (if i = i then D else dd i) (if i = i then -1 else sc i)
      rw [if_pos rfl, if_pos rfl, if_pos rfl, if_pos rfl]
      exact ⟨f0, ⟨_, f1, fun _ _ => Or.inl rfl⟩, ⟨_, _, f2, f3, fun _ _ => Or.inl ⟨rfl, fun j _ => bl_0 _⟩⟩, ⟨_, _, f4, f5, fun _ _ => ⟨rfl, fun z => absurd z Bool.false_ne_true⟩⟩, ⟨⟨_, f6⟩, Or.inl rfl⟩⟩
    · show FO h1 (if i = c then nx else da i) (if i = c then -1 else sc i) ∧ FA h1 (if i = c then nx else da i) (if i = c then D else dd i) ∧ FP h1 (if i = c then nx else da i) (if i = c then D else dd i) ∧ FLk h1 (if i = c then nx else da i) (if i = c then D else dd i) (if i = c then fun _ => false else kn i) ∧ FS h1 (if i = c then nx else da i) (if i = c then D else dd i) (if i = c then -1 else sc i)
      rw [if_neg ei, if_neg ei, if_neg ei, if_neg ei]
      have hi2 : i < c := by omega
      obtain ⟨y1, y2, y3, y4, y5⟩ := k i hi2
      have := z4 i hi2
      have aw : ∀ x, da i ≤ x → x < da i + 29 → h1 x = h x := fun x x1 x2 => hs x (by omega) (by omega) (by omega) (by omega) (by omega)
      exact ⟨y1.ag (aw _ (by omega) (by omega)), y2.ag (aw _ (by omega) (by omega)), y3.ag (fun x _ _ => aw x (by omega) (by omega)), y4.ag (aw _ (by omega) (by omega)) (aw _ (by omega) (by omega)), y5.ag (aw _ (by omega) (by omega))⟩
theorem WM.drw {h h1 : AH} {o tl c sb : Nat} {fs fs1 : List Value} {fp ah : Int32} {dd : Nat → DD} {D : DD} {u : Nat → Nat} {L : List LE} {s : HWk} (H : WM h o fs tl fp c ah dd sb u L s) (hc : c < 4) (R : MRy o c h fs h1 fs1) (hD : MPg h1 o c D) (hx : MPx h1 o c D) (hw : WD D) (hH : ∀ D : DD, dR D ≤ 6 → MHw h1 o fs1 D hw0) : WM h1 o fs1 0 (-1) (c + 1) (nI c) (fun i => if i = c then D else dd i) sb u L hw0 := by
  obtain ⟨a1, a2, a3, a4, a5, ⟨a6, a7, a8⟩, ⟨v9, a9⟩, ⟨v10, a10⟩, ⟨g, a11, a11b⟩, a12, a13, a14, a15, a16⟩ := H
  obtain ⟨r1, r2, r3, ⟨r4, r5, r6, r7, r8⟩, r9, r10, r11, r12, r13⟩ := R
  have old : ∀ i, i < c → MPg h1 o i (dd i) ∧ MPx h1 o i (dd i) := fun i hi => MPg.old (a4.2.2 i hi).1 (a5 i hi) (a4.2.2 i hi).2 hi r12
  have rr : ∀ j, j = 0 ∨ j = 6 ∨ 35 ≤ j → h1 (o + 1 + j) = h (o + 1 + j) := fun j hj => r11 _ (by omega) (by omega)
  have pg : ∀ i, i < c + 1 → (MPg h1 o i ((fun i => if i = c then D else dd i) i) ∧ WD ((fun i => if i = c then D else dd i) i)) ∧ MPx h1 o i ((fun i => if i = c then D else dd i) i) := fun i hi => by
    show (MPg h1 o i (if i = c then D else dd i) ∧ WD (if i = c then D else dd i)) ∧ MPx h1 o i (if i = c then D else dd i)
    by_cases ei : i = c
    · rw [if_pos ei, ei]
      exact ⟨⟨hD, hw⟩, hx⟩
    · rw [if_neg ei]
      exact ⟨⟨(old i (by omega)).1, (a4.2.2 i (by omega)).2⟩, (old i (by omega)).2⟩
  refine ⟨r1, r2, ?_, ⟨r6, by omega, fun i hi => (pg i hi).1⟩, fun i hi => (pg i hi).2, ⟨r4, r5, r7⟩, r9, r10, ⟨g, (rr 0 (by decide)).trans a11, fun i hi => absurd hi (Nat.not_lt_zero i)⟩, r13 a12, a13.ag (rr 51 (by decide)) (r3 81 (by decide)), a14.ag (r3 91 (by decide)) (fun j h1 h2 => rr j (by omega)), fun t ht e => ⟨hH _ (pg t ht).1.2.r, Or.inl r8⟩, fun h0 => absurd h0 (Nat.succ_ne_zero c)⟩
  obtain ⟨gg, z1, z2⟩ := a3
  exact ⟨gg, (rr 6 (by decide)).trans z1, z2⟩
section PRU
variable {l : Launch} {G : GG} {h : AH} {nx o w om j k n : Nat} {Q : AH → Nat → Nat → Nat → Prop}
set_option maxHeartbeats 2000000 in
theorem pw_use {a1 : Int32} (hX : XC G ∧ TX l G) (hW : WLD h nx o w om j k n) (hj : j < 512) (hQ : ∀ (h2 : AH) (nx2 k2 n2 : Nat), WLD h2 nx2 o w om (j + 1) k2 n2 → Q h2 nx2 k2 n2) : PR l G o om i_X11_use i_X12_use [.int a1] h nx k n Q := by
  obtain ⟨tl, c, vb, sb, q, fp, ah, da, dd, u, L, s, kn, sc, fs, hC, hx, hm, v1, v2, v3, v4⟩ := hW
  obtain ⟨rfl, how, htl, hu, hwl, _⟩ := id hC
  obtain ⟨gb1, gb2⟩ := gS_b hx.nxw.2.1
  have hc4 := hx.nxw.2.2.1
  have f19 := hm.2.2.2.2.2.1.2.2
  cases hr : inR a1 c with
  | false => exact pw0 hx.1.1 hm.1.1 (by omega) (by omega) (fun _ hP => x_useNo hX hx.1 hr hP) (fun _ hP => m_use hX hm.1 hm.2.1 hm.qps f19 (fun _ => hP) (fun z => absurd (hr.symm.trans z) (by decide)) (fun z => absurd (hr.symm.trans z) (by decide))) (hQ _ _ _ _ (WLD.go hC ⟨kn, sc, hx⟩ hm (by omega) (by omega)))
  | true =>
    obtain ⟨t2, ht2, e2⟩ := (inR_c (by omega)).mp hr
    subst e2
    obtain ⟨a0, f1, _⟩ := hx.2.2.2.2.2.1
    refine ⟨_, 0, 0, hx.1.1, by omega, by omega, x_use hX hx.1 ht2 f1 (fun ea => ?_) (fun na h1 hs1 hA1 hW1 => ?_)⟩
    · exact ⟨_, _, 0, 0, rfl, hm.1.1, by omega, by omega, m_use hX hm.1 hm.2.1 hm.qps f19 (fun z => absurd (z.symm.trans hr) (by decide)) (fun _ _ => ⟨rfl, hQ _ _ _ _ (WLD.go hC ⟨kn, sc, hx⟩ hm (by omega) (by omega))⟩) (fun _ z => absurd ea z)⟩
    · have hm1 : WM h1 (w + 73) fs tl fp c ah dd sb u L s := hm.ag (fun x y1 y2 => hs1 x (by omega) (by omega))
      exact ⟨_, _, 0, 0, rfl, hm1.1.1, by omega, by omega, m_use hX hm1.1 hm1.2.1 hm1.qps f19 (fun z => absurd (z.symm.trans hr) (by decide)) (fun _ z => absurd z na) (fun _ _ h2 M2 S2 H2 fr2 => ⟨rfl, hQ _ _ _ _ (WLD.go (s := hw0) ⟨rfl, how, htl, hu, hwl, Or.inr ⟨t2, ht2, rfl, WHs_0 _⟩⟩ (WXE.ag ⟨kn, sc, hx.use ht2 how hs1 hA1 hW1⟩ how (fun x y => fr2 x (by omega) (by omega))) (hm1.use ht2 M2 S2 H2 fr2) (by omega) (by omega))⟩)⟩
set_option maxHeartbeats 4000000 in
theorem pw_read (hX : XC G ∧ TX l G) (hW : WLD h nx o w om j k n) (hj : j < 512) (hQ : ∀ (h2 : AH) (nx2 k2 n2 : Nat), WLD h2 nx2 o w om (j + 1) k2 n2 → Q h2 nx2 k2 n2) : PR l G o om i_X11_read i_X12_read [] h nx k n Q := by
  obtain ⟨tl, c, vb, sb, q, fp, ah, da, dd, u, L, s, kn, sc, fs, hC, hx, hm, v1, v2, v3, v4⟩ := hW
  obtain ⟨rfl, how, htl, hu, hwl, _⟩ := id hC
  obtain ⟨gb1, gb2⟩ := gS_b hx.nxw.2.1
  have hc4 := hx.nxw.2.2.1
  obtain ⟨N, hE⟩ := zEnd_ex (kdN u tl)
  obtain ⟨a0, f1, _⟩ := hx.2.2.2.2.2.1
  obtain ⟨gx, x1, x2⟩ := hx.2.2.2.2.2.2.2.2.1
  obtain ⟨gm, m1, m2⟩ := hm.2.2.2.2.2.2.2.2.1
  obtain ⟨k8, e8, b8⟩ := hm.2.2.2.2.2.2.2.2.2.1
  have hst : ∀ i, i < 5 → k8 (5 * c + i) = nI ((fun i => decide (k8 (5 * c + i) = 1)) i).toNat := fun i hi => by
    obtain ⟨b, hb⟩ := b8 (5 * c + i) (by omega)
    show k8 (5 * c + i) = nI (decide (k8 (5 * c + i) = 1)).toNat
    rw [hb]
    cases b <;> decide
  obtain ⟨nz1, _, _, nz4, _⟩ := hx.nxw
  refine ⟨_, 60, 12000, hx.1.1, by omega, by omega, x_read (st5 := fun i => decide (k8 (5 * c + i) = 1)) hX hx.1 hx.2.2.2.2.2.2.2.1 f1 x1 x2 hu htl hE nz1 (fun i hi => (nz4 i hi).2) (fun c4 => ?_) (fun c4 f q2 h1 hf hs1 hA1 hR1 => ?_) (fun c4 hT hz h1 hs1 hA1 hR1 hW1 hF1 => ?_)⟩
  · exact ⟨_, _, 0, 0, rfl, hm.1.1, by omega, by omega, m_read (st5 := fun i => decide (k8 (5 * c + i) = 1)) hX hm.1 hm.2.1 hm.2.2.1 hm.qps.1 hc4 hm.2.2.2.2.2.1.1 htl m1 m2 hu hm.2.2.2.2.2.2.1 hm.2.2.2.2.2.2.2.1 hE e8 hst (fun _ => ⟨rfl, hQ _ _ _ _ (WLD.go hC ⟨kn, sc, hx⟩ hm (by omega) (by omega))⟩) (fun z => absurd z (by omega)) (fun z => absurd z (by omega))⟩
  · have hm1 : WM h1 (w + 73) fs tl fp c ah dd sb u L s := hm.ag (fun x y1 y2 => hs1 x (by omega) (by omega))
    have r0 : h1 (w + 73 + 1 + 0) = some (.inl (2, 2000, .inl gm)) := (hs1 _ (by omega) (by omega)).trans m1
    have r8 : h1 (w + 73 + 1 + 8) = some (.inl (3, 25, .inl k8)) := (hs1 _ (by omega) (by omega)).trans e8
    refine ⟨_, _, 0, 0, rfl, hm1.1.1, by omega, by omega, m_read (st5 := fun i => decide (k8 (5 * c + i) = 1)) hX hm1.1 hm1.2.1 hm1.2.2.1 hm1.qps.1 hc4 hm1.2.2.2.2.2.1.1 htl r0 m2 hu hm1.2.2.2.2.2.2.1 hm1.2.2.2.2.2.2.2.1 hE r8 hst (fun z => absurd z (by omega)) (fun _ f3 q3 h2 fs2 hf2 R2 f17 => ?_) (fun _ hT hz => absurd (fltN_no hf hT.2 hz) id)⟩
    obtain ⟨ef, eq⟩ := fltN_1 hf hf2
    subst ef
    subst eq
    exact ⟨rfl, hQ _ _ _ _ (WLD.go (tl := 0) ⟨rfl, how, by omega, hu, hwl, hC.2.2.2.2.2⟩ (WXE.ag ⟨kn, sc, hx.flt how hs1 hA1 hR1⟩ how (fun x y => R2.2.2.2.2.2.2.1 x (by omega) (by omega))) (hm1.flt R2 f17) (by omega) (by omega))⟩
  · have hm1 : WM h1 (w + 73) fs tl fp c ah dd sb u L s := hm.ag (fun x y1 y2 => hs1 x (by omega) (by omega) (by omega) (by omega) (by omega))
    have r0 : h1 (w + 73 + 1 + 0) = some (.inl (2, 2000, .inl gm)) := (hs1 _ (by omega) (by omega) (by omega) (by omega) (by omega)).trans m1
    have r8 : h1 (w + 73 + 1 + 8) = some (.inl (3, 25, .inl k8)) := (hs1 _ (by omega) (by omega) (by omega) (by omega) (by omega)).trans e8
    have hwd : WD (mkD (kdN u tl) (vaN u tl) N (fun i => decide (k8 (5 * c + i) = 1))) := by
      have e : WD (if c = c then mkD (kdN u tl) (vaN u tl) N (fun i => decide (k8 (5 * c + i) = 1)) else dd c) := (hA1.2.2.2.2.1 c (Nat.lt_succ_self c)).2.1
      rw [if_pos rfl] at e
      exact e
    refine ⟨_, _, 0, 0, rfl, hm1.1.1, by omega, by omega, m_read (st5 := fun i => decide (k8 (5 * c + i) = 1)) hX hm1.1 hm1.2.1 hm1.2.2.1 hm1.qps.1 hc4 hm1.2.2.2.2.2.1.1 htl r0 m2 hu hm1.2.2.2.2.2.2.1 hm1.2.2.2.2.2.2.2.1 hE r8 hst (fun z => absurd z (by omega)) (fun _ f3 q3 h2 fs2 hf2 _ _ => absurd (fltN_no hf2 hT.2 hz) id) (fun _ _ _ h2 fs2 R2 pg px hH => ?_)⟩
    exact ⟨rfl, hQ _ _ _ _ (WLD.go (s := hw0) ⟨rfl, how, by omega, hu, hwl, Or.inr ⟨c, Nat.lt_succ_self c, rfl, WHs_0 _⟩⟩ (WXE.ag ⟨_, _, hx.drw how hs1 hA1 hR1 hW1 hF1⟩ how (fun x y => R2.2.2.2.2.2.2.1 x (by omega) (by omega))) (hm1.drw c4 R2 pg px hwd hH) (by omega) (by omega))⟩
end PRU
