/-! the model reads a page: what is kept of the pages behind it, what is written so far -/
def rowZ (e0 e : Option AE) (b : Nat) : Prop := e = e0 ∨ (∃ (t n : Nat) (g0 g : Nat → Int32), e0 = some (.inl (t, n, .inl g0)) ∧ e = some (.inl (t, n, .inl g)) ∧ ∀ x, x < b → g x = g0 x) ∨ (∃ (n : Nat) (g0 g : Nat → Int64), e0 = some (.inl (1, n, .inr (.inl g0))) ∧ e = some (.inl (1, n, .inr (.inl g))) ∧ ∀ x, x < b → g x = g0 x)
theorem rowZ.rf (e : Option AE) (b : Nat) : rowZ e e b := Or.inl rfl
theorem rowZ.tr {a b c : Option AE} {k : Nat} (x : rowZ a b k) (y : rowZ b c k) : rowZ a c k := by
  rcases x with x | ⟨t, n, g0, g, x1, x2, x3⟩ | ⟨n, g0, g, x1, x2, x3⟩
  · rw [← x]; exact y
  · rcases y with y | ⟨t2, n2, g2, g3, y1, y2, y3⟩ | ⟨n2, g2, g3, y1, y2, y3⟩
    · rw [y]; exact Or.inr (Or.inl ⟨t, n, g0, g, x1, x2, x3⟩)
    · rw [x2] at y1
      cases y1
      exact Or.inr (Or.inl ⟨t, n, g0, g3, x1, y2, fun x hx => (y3 x hx).trans (x3 x hx)⟩)
    · rw [x2] at y1
      cases y1
  · rcases y with y | ⟨t2, n2, g2, g3, y1, y2, y3⟩ | ⟨n2, g2, g3, y1, y2, y3⟩
    · rw [y]; exact Or.inr (Or.inr ⟨n, g0, g, x1, x2, x3⟩)
    · rw [x2] at y1
      cases y1
    · rw [x2] at y1
      cases y1
      exact Or.inr (Or.inr ⟨n, g0, g3, x1, y2, fun x hx => (y3 x hx).trans (x3 x hx)⟩)
theorem rowZ.i {e0 e : Option AE} {t n b : Nat} {g0 g : Nat → Int32} (h0 : e0 = some (.inl (t, n, .inl g0))) (h : e = some (.inl (t, n, .inl g))) (hg : ∀ x, x < b → g x = g0 x) : rowZ e0 e b := Or.inr (Or.inl ⟨t, n, g0, g, h0, h, hg⟩)
theorem rowZ.u {e0 e : Option AE} {t n b i : Nat} {v : Int32} {g0 : Nat → Int32} (h0 : e0 = some (.inl (t, n, .inl g0))) (h : e = some (.inl (t, n, .inl (upd g0 i v)))) (hi : b ≤ i) : rowZ e0 e b := rowZ.i h0 h (fun x hx => pk_un (by omega))
theorem rowZ.l {e0 e : Option AE} {n b : Nat} {g0 g : Nat → Int64} (h0 : e0 = some (.inl (1, n, .inr (.inl g0)))) (h : e = some (.inl (1, n, .inr (.inl g)))) (hg : ∀ x, x < b → g x = g0 x) : rowZ e0 e b := Or.inr (Or.inr ⟨n, g0, g, h0, h, hg⟩)
/-- how many cells of row j a page has -/
def stR (j : Nat) : Nat := [1, 5, 5, 1, 6, 6, 1, 5, 5, 1, 6, 1, 40, 40, 40, 40, 17, 17, 17, 17, 420, 420].getD (j - 7) 0
/-- a row of booleans -/
def B8 (e : Option AE) : Prop := ∃ g : Nat → Int32, e = some (.inl (3, 25, .inl g)) ∧ ∀ k, k < 25 → ∃ b : Bool, g k = nI b.toNat
theorem B8.u {e0 e : Option AE} {g : Nat → Int32} {i : Nat} {b : Bool} (h0 : e0 = some (.inl (3, 25, .inl g))) (h : e = some (.inl (3, 25, .inl (upd g i (nI b.toNat))))) : B8 e0 → B8 e := fun ⟨g2, x1, x2⟩ => by
  rw [h0] at x1
  cases x1
  refine ⟨_, h, fun k hk => ?_⟩
  by_cases c : k = i
  · exact ⟨b, by rw [c, pk_us]⟩
  · rw [pk_un c]; exact x2 k hk
/-- reading page d: the fields that stay, the rows that stay, the pages below d -/
def FRM (o d : Nat) (h0 : AH) (fs0 : List Value) (h : AH) (fs : List Value) : Prop := pfF fs0 fs ∧ (∀ x, x ≠ o → (x < o + 1 + 7 ∨ o + 1 + 32 ≤ x) → h x = h0 x) ∧ (∀ j, 7 ≤ j → j < 29 → rowZ (h0 (o + 1 + j)) (h (o + 1 + j)) (stR j * d)) ∧ (B8 (h0 (o + 1 + 8)) → B8 (h (o + 1 + 8)))
theorem FRM.rf (o d : Nat) (h : AH) (fs : List Value) : FRM o d h fs h fs := ⟨pfF.rf fs, fun _ _ _ => rfl, fun _ _ _ => rowZ.rf _ _, id⟩
theorem FRM.tr {o d : Nat} {h0 h1 h2 : AH} {f0 f1 f2 : List Value} (x : FRM o d h0 f0 h1 f1) (y : FRM o d h1 f1 h2 f2) : FRM o d h0 f0 h2 f2 := ⟨x.1.tr y.1, fun a ha hb => (y.2.1 a ha hb).trans (x.2.1 a ha hb), fun j h1 h2 => (x.2.2.1 j h1 h2).tr (y.2.2.1 j h1 h2), fun z => y.2.2.2 (x.2.2.2 z)⟩
theorem FRM.ob {o d : Nat} {h0 h1 h2 : AH} {f0 f1 f2 : List Value} (x : FRM o d h0 f0 h1 f1) (hf : pfF f1 f2) (hh : ∀ x, x ≠ o → h2 x = h1 x) : FRM o d h0 f0 h2 f2 := x.tr ⟨hf, fun a ha _ => hh a ha, fun j _ _ => Or.inl (hh _ (by omega)), fun z => by rw [hh _ (by omega)]; exact z⟩
def allJ (P : Nat → Prop) : List Nat → Prop
  | [] => True
  | j :: r => P j ∧ allJ P r
theorem allJ.m {P : Nat → Prop} : ∀ {l : List Nat}, allJ P l → ∀ j ∈ l, P j
  | [], _, _, hj => by cases hj
  | k :: r, h, j, hj => by
    rcases List.mem_cons.mp hj with e | e
    · rw [e]; exact h.1
    · exact allJ.m h.2 j e
/-- some rows are written -/
theorem FRM.up {o d : Nat} {h0 h1 h2 : AH} {f0 f1 f2 : List Value} (js : List Nat) (x : FRM o d h0 f0 h1 f1) (hf : pfF f1 f2) (hh : ∀ x, x ≠ o → (∀ j ∈ js, x ≠ o + 1 + j) → h2 x = h1 x) (hj : allJ (fun j => 7 ≤ j ∧ j < 32 ∧ (j < 29 → rowZ (h1 (o + 1 + j)) (h2 (o + 1 + j)) (stR j * d))) js) (h8 : 8 ∈ js → B8 (h1 (o + 1 + 8)) → B8 (h2 (o + 1 + 8)) := by exact fun z => absurd z (by decide)) : FRM o d h0 f0 h2 f2 := by
  have hm := hj.m
  refine x.tr ⟨hf, fun a ha hb => hh a ha (fun j hj => ?_), fun j h7 h29 => ?_, fun z => ?_⟩
  · have := hm j hj
    omega
  · by_cases c : j ∈ js
    · exact (hm j c).2.2 h29
    · exact Or.inl (hh _ (by omega) (fun k hk e => c (by rw [show j = k by omega]; exact hk)))
  · by_cases c : 8 ∈ js
    · exact h8 c z
    · rw [hh _ (by omega) (fun k hk e => c (by rw [show 8 = k by omega]; exact hk))]
      exact z
/-- the number of a contact's circuit, as the model has it -/
def mOw (z : ZT) : Nat := if zT z = 6 then zR z - 1 else 10 + (zL z - 1)
/-- the contacts and the nevers' names ahead of token t -/
def KR (h : AH) (o d : Nat) (kd : Nat → Nat) (t : Nat) : Prop := ∃ g18 g19 g21 g22 g29 g30 : Nat → Int32, h (o + 1 + 18) = some (.inl (0, 5, .inl g18)) ∧ h (o + 1 + 19) = some (.inl (0, 200, .inl g19)) ∧ h (o + 1 + 21) = some (.inl (3, 200, .inl g21)) ∧ h (o + 1 + 22) = some (.inl (0, 200, .inl g22)) ∧ h (o + 1 + 29) = some (.inl (0, 400, .inl g29)) ∧ h (o + 1 + 30) = some (.inl (0, 400, .inl g30)) ∧ g18 d = nI (zK (zz kd t)) ∧ (∀ i, i < t → zC (zz kd i) = true → kd i = 2 → g19 (40 * d + zK (zz kd i)) = nI (mOw (zz kd i)) ∧ g21 (40 * d + zK (zz kd i)) = nI (decide (zS (zz kd i) = 11)).toNat ∧ g22 (40 * d + zK (zz kd i)) = nI i) ∧ ∀ i, i < t → wQ kd i = true → g29 (wN kd i) = nI i ∧ g30 (wN kd i) = nI (420 * d + (cG kd i).2.length)
theorem KR.ag {h h' : AH} {o d t : Nat} {kd : Nat → Nat} (H : KR h o d kd t) (hs : ∀ j, j = 18 ∨ j = 19 ∨ j = 21 ∨ j = 22 ∨ j = 29 ∨ j = 30 → h' (o + 1 + j) = h (o + 1 + j)) : KR h' o d kd t := by
  obtain ⟨a, b, c, e, f, g, a1, b1, c1, e1, f1, g1, r⟩ := H
  exact ⟨a, b, c, e, f, g, (hs 18 (by omega)).trans a1, (hs 19 (by omega)).trans b1, (hs 21 (by omega)).trans c1, (hs 22 (by omega)).trans e1, (hs 29 (by omega)).trans f1, (hs 30 (by omega)).trans g1, r⟩
/-- a code's cell, ahead of knows -/
def cvB (kd : Nat → Nat) (e : Nat) : Nat := if e < 1000 then e else if zT (zz kd (e - 1000)) = 10 then 60 + (decide (zS (zz kd (e - 1000)) = 11)).toNat else zK (zz kd (e - 1000))
def rwC (h : AH) (o b : Nat) (cv : Nat → Nat) (L : List Nat) : Prop := ∃ g : Nat → Int32, h (o + 1 + 27) = some (.inl (0, 2100, .inl g)) ∧ ∀ p, p < L.length → g (b + p) = nI (cv (L.getD p 0))
theorem rwC.ag {h h' : AH} {o b : Nat} {cv : Nat → Nat} {L : List Nat} (H : rwC h o b cv L) (hs : h' (o + 1 + 27) = h (o + 1 + 27)) : rwC h' o b cv L := by
  obtain ⟨g, a, r⟩ := H
  exact ⟨g, hs.trans a, r⟩
/-- tokens that are no names of circuits leave contacts and names -/
theorem KR.stay {h : AH} {o d a b : Nat} {kd : Nat → Nat} (H : KR h o d kd a) (hz : zK (zz kd b) = zK (zz kd a)) (hab : ∀ i, i < b → i < a ∨ (wQ kd i = false ∧ ¬ (zC (zz kd i) = true ∧ kd i = 2))) : KR h o d kd b := by
  obtain ⟨g18, g19, g21, g22, g29, g30, a1, b1, c1, e1, f1, g1, r1, r2, r3⟩ := H
  refine ⟨g18, g19, g21, g22, g29, g30, a1, b1, c1, e1, f1, g1, by rw [hz]; exact r1, fun i hi hc hk => ?_, fun i hi hw => ?_⟩
  · rcases hab i hi with z | z
    · exact r2 i z hc hk
    · exact absurd ⟨hc, hk⟩ z.2
  · rcases hab i hi with z | z
    · exact r3 i z hw
    · rw [z.1] at hw; cases hw
/-- within a circuit at token t -/
def MRs (kd : Nat → Nat) (o d : Nat) (h0 : AH) (fs0 : List Value) (h : AH) (fs : List Value) (t sg wo : Nat) (wp : Int32) (W L : List Nat) : Prop := PRs h o fs ((t, opC W, 420 * d + L.length, 420 * d + sg), (wN kd t, W.length, wo, wp)) ∧ FRM o d h0 fs0 h fs ∧ KR h o d kd t ∧ (∃ g31 : Nat → Int32, h (o + 1 + 31) = some (.inl (0, 420, .inl g31)) ∧ rowP g31 W) ∧ rwC h o (420 * d) (cvB kd) L
/-- between statements, or in a statement's head, at token t -/
def MRt (kd : Nat → Nat) (o d : Nat) (h0 : AH) (fs0 : List Value) (h : AH) (fs : List Value) (t wo : Nat) (wp : Int32) : Prop := (∃ wg, PRs h o fs ((t, 0, 420 * d + (cG kd t).2.length, 420 * d + gCn kd t), (wN kd t, wg, wo, wp))) ∧ FRM o d h0 fs0 h fs ∧ KR h o d kd t ∧ rwC h o (420 * d) (cvB kd) (cG kd t).2
theorem nI_any (v : Int32) : ∃ k : Nat, v = nI k := ⟨v.toBitVec.toNat, by
  obtain ⟨⟨b⟩⟩ := v
  show Int32.ofUInt32 (UInt32.ofBitVec b) = Int32.ofUInt32 (UInt32.ofBitVec (BitVec.ofNat 32 b.toNat))
  rw [BitVec.ofNat_toNat, BitVec.setWidth_eq]⟩
/-- a token of a statement's head leaves what circuits have written -/
theorem hd_s {kd : Nat → Nat} {t : Nat} (h : zS (zz kd t) < 10) : cG kd (t + 1) = cG kd t ∧ gCn kd (t + 1) = gCn kd t ∧ wN kd (t + 1) = wN kd t ∧ wQ kd t = false ∧ zC (zz kd t) = false := by
  have h1 : wQ kd t = false := by
    unfold wQ zQ
    rw [decide_eq_false (p := zS (zz kd t) = 10) (by omega), decide_eq_false (p := zS (zz kd t) = 11) (by omega), Bool.or_false, Bool.and_false, Bool.false_and]
  refine ⟨cG_n h, ?_, ?_, h1, ?_⟩
  · show gCn kd t + (if 10 ≤ zS (zz kd t) ∧ kd t ≠ 12 then 1 else 0) = _
    rw [if_neg (by omega)]
    rfl
  · show wN kd t + (if wQ kd t = true then 1 else 0) = _
    rw [h1, if_neg (by decide)]
    rfl
  · unfold zC
    rw [decide_eq_false (p := zS (zz kd t) = 10) (by omega), decide_eq_false (p := zS (zz kd t) = 11) (by omega)]
    rfl
theorem zK_h {kd : Nat → Nat} {t s : Nat} (h : zS (zz kd t) < 10) (hz : zz kd (t + 1) = zA (zz kd t) (kd t) s) : zK (zz kd (t + 1)) = zK (zz kd t) := by
  rw [hz, zA_K, if_neg (fun y => by rw [(hd_s h).2.2.2.2] at y; cases y.1)]
theorem MRt.go {kd : Nat → Nat} {o d t wo w2 wg s : Nat} {h0 h h1 : AH} {fs0 fs fs1 : List Value} {wp p2 : Int32} (M : MRt kd o d h0 fs0 h fs t wo wp) (h10 : zS (zz kd t) < 10) (hz : zz kd (t + 1) = zA (zz kd t) (kd t) s) (hP : PRs h1 o fs1 ((t + 1, 0, 420 * d + (cG kd t).2.length, 420 * d + gCn kd t), (wN kd t, wg, w2, p2))) (hF : pfF fs fs1) (hf : ∀ x, x ≠ o → h1 x = h x) : MRt kd o d h0 fs0 h1 fs1 (t + 1) w2 p2 := by
  obtain ⟨_, m2, m3, m4⟩ := M
  obtain ⟨e1, e2, e3, e4, e5⟩ := hd_s h10
  refine ⟨⟨wg, by rw [e1, e2, e3]; exact hP⟩, m2.ob hF hf, (m3.ag (fun j hj => hf _ (by omega))).stay (zK_h h10 hz) (fun i hi => ?_), by rw [e1]; exact m4.ag (hf _ (by omega))⟩
  by_cases e : i = t
  · rw [e]
    exact Or.inr ⟨e4, fun z => by rw [e5] at z; cases z.1⟩
  · exact Or.inl (by omega)
