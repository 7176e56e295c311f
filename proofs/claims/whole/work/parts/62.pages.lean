/-! the model's rows: their kinds and lengths; a page of a drawing; a hut that is built -/
def tyL : List (Nat × Nat) := [(2, 2000), (2, 2000), (0, 403), (0, 403), (0, 403), (1, 403), (1, 8), (0, 5), (3, 25), (1, 25), (0, 5), (0, 30), (1, 30), (0, 5), (3, 25), (1, 25), (0, 5), (0, 30), (0, 5), (0, 200), (0, 200), (3, 200), (0, 200), (0, 85), (0, 85), (0, 85), (0, 85), (0, 2100), (1, 2100), (0, 400), (0, 400), (0, 420), (3, 40), (0, 6), (0, 6), (3, 40), (3, 420), (3, 40), (3, 40), (3, 40), (3, 40), (0, 4096), (0, 4096), (0, 2), (0, 2), (0, 2048), (0, 2048), (0, 2048), (3, 2048), (0, 131072), (0, 131072), (0, 131072), (0, 12), (0, 30), (0, 360), (3, 2048), (0, 2048), (0, 40), (0, 40), (0, 40), (0, 40), (0, 31), (0, 1023)]
def rowS (e : Option AE) (p : Nat × Nat) : Prop := match p.1 with
  | 1 => ∃ g : Nat → Int64, e = some (.inl (1, p.2, .inr (.inl g)))
  | t => ∃ g : Nat → Int32, e = some (.inl (t, p.2, .inl g))
/-- each row is there, of its kind and length -/
def SHm (h : AH) (o : Nat) : Prop := ∀ j, j < 63 → rowS (h (o + 1 + j)) (tyL.getD j (0, 0))
theorem SHm.upd {h h1 : AH} {o : Nat} (hS : SHm h o) (ha : ∀ j, j < 63 → h1 (o + 1 + j) = h (o + 1 + j) ∨ rowS (h1 (o + 1 + j)) (tyL.getD j (0, 0))) : SHm h1 o := by
  intro j hj
  rcases ha j hj with e | e
  · rw [e]; exact hS j hj
  · exact e
theorem SHm.i {h : AH} {o : Nat} (hS : SHm h o) (j : Nat) {t n : Nat} (hj : j < 63) (ht : t ≠ 1) (he : tyL.getD j (0, 0) = (t, n)) : ∃ g : Nat → Int32, h (o + 1 + j) = some (.inl (t, n, .inl g)) := by
  have := hS j hj
  rw [he] at this
  unfold rowS at this
  split at this
  · next h1 => exact absurd h1 ht
  · exact this
theorem rowS_i {e : Option AE} {t n : Nat} (ht : t ≠ 1) {p : Nat × Nat} (hp : p = (t, n)) (h : ∃ g : Nat → Int32, e = some (.inl (t, n, .inl g))) : rowS e p := by
  rw [hp]
  unfold rowS
  split
  · next h1 => exact absurd h1 ht
  · exact h
/-- the names of page d, and the tokens of its circuits -/
def MNm (h : AH) (o d : Nat) (D : DD) : Prop := (∃ g : Nat → Int64, h (o + 1 + 9) = some (.inl (1, 25, .inr (.inl g))) ∧ ∀ i, i < dI D → g (5 * d + i) = dnI D i) ∧ (∃ g : Nat → Int64, h (o + 1 + 12) = some (.inl (1, 30, .inr (.inl g))) ∧ ∀ i, i < dR D → g (6 * d + i) = dnR D i) ∧ (∃ g : Nat → Int64, h (o + 1 + 15) = some (.inl (1, 25, .inr (.inl g))) ∧ ∀ i, i < dL D → g (5 * d + i) = dnL D i) ∧
  ∃ (gf gt : Nat → Int32) (gs : Nat → Int64), h (o + 1 + 25) = some (.inl (0, 85, .inl gf)) ∧ h (o + 1 + 26) = some (.inl (0, 85, .inl gt)) ∧ h (o + 1 + 28) = some (.inl (1, 2100, .inr (.inl gs))) ∧ ∀ c, c < 11 → cirB (dR D) (dL D) c = true → ∃ a, gf (17 * d + c) = nI a ∧ gt (17 * d + c) = nI (a + (dsg D c).length) ∧ a + (dsg D c).length ≤ 2100 ∧ ∀ i, i < (dsg D c).length → gs (a + i) = (dsg D c).getD i 0
/-- page d of the model's rows is drawing D -/
def MPg (h : AH) (o d : Nat) (D : DD) : Prop := DG h o d (dK D) (dR D) (dL D) (dof D) (dnt D) (dtr D) (dCT D) ∧ WHO h o d (dK D) (dow D) ∧ DN h o d (dV D) (dlp D) (dtr D) (dNV D) ∧ (∃ g : Nat → Int32, h (o + 1 + 7) = some (.inl (0, 5, .inl g)) ∧ g d = nI (dI D)) ∧ (∃ g : Nat → Int32, h (o + 1 + 11) = some (.inl (0, 30, .inl g)) ∧ ∀ r, r < dR D → g (6 * d + r) = nI (dsl D r)) ∧ (∃ g : Nat → Int32, h (o + 1 + 14) = some (.inl (3, 25, .inl g)) ∧ ∀ k, k < dL D → g (5 * d + k) = nI (dgr D k).toNat) ∧ MNm h o d D ∧ d < 5
theorem MNm.ag {h h' : AH} {o d : Nat} {D : DD} (hD : MNm h o d D) (hs : ∀ j, j < 30 → h' (o + 1 + j) = h (o + 1 + j)) : MNm h' o d D := by
  obtain ⟨⟨a, a1, a2⟩, ⟨b, b1, b2⟩, ⟨c, c1, c2⟩, gf, gt, gs, e1, e2, e3, e4⟩ := hD
  exact ⟨⟨a, (hs 9 (by decide)).trans a1, a2⟩, ⟨b, (hs 12 (by decide)).trans b1, b2⟩, ⟨c, (hs 15 (by decide)).trans c1, c2⟩, gf, gt, gs, (hs 25 (by decide)).trans e1, (hs 26 (by decide)).trans e2, (hs 28 (by decide)).trans e3, e4⟩
theorem WHO.ag {h h' : AH} {o d K : Nat} {ow : Nat → Nat} (hD : WHO h o d K ow) (hs : ∀ j, j < 30 → h' (o + 1 + j) = h (o + 1 + j)) : WHO h' o d K ow := by
  obtain ⟨g, a, b⟩ := hD
  exact ⟨g, (hs 19 (by decide)).trans a, b⟩
theorem MPg.ag {h h' : AH} {o d : Nat} {D : DD} (hD : MPg h o d D) (hs : ∀ j, j < 30 → h' (o + 1 + j) = h (o + 1 + j)) : MPg h' o d D := by
  obtain ⟨a, b, c, ⟨g1, e1, p1⟩, ⟨g2, e2, p2⟩, ⟨g3, e3, p3⟩, f, i⟩ := hD
  exact ⟨a.ag hs, b.ag hs, c.ag hs, ⟨g1, (hs 7 (by decide)).trans e1, p1⟩, ⟨g2, (hs 11 (by decide)).trans e2, p2⟩, ⟨g3, (hs 14 (by decide)).trans e3, p3⟩, f.ag hs, i⟩
/-- hut q stands built at place hh of the model -/
def HB (h : AH) (o hh : Nat) (q : HKy) : Prop := ∃ gsh gse gst gup : Nat → Int32, h (o + 1 + 41) = some (.inl (0, 4096, .inl gsh)) ∧ h (o + 1 + 42) = some (.inl (0, 4096, .inl gse)) ∧ h (o + 1 + 43) = some (.inl (0, 2, .inl gst)) ∧ h (o + 1 + 44) = some (.inl (0, 2, .inl gup)) ∧ gst hh = nI (kSt q) ∧ gup hh = nI (kSu q) ∧ ∀ on, on < 2 ^ dI (kD q) → ∀ v, v < 2 ^ dR (kD q) → gsh (2048 * hh + 64 * on + v) = nI (kSh q on v) ∧ gse (2048 * hh + 64 * on + v) = kSe q on v
theorem HB.ag {h h' : AH} {o hh : Nat} {q : HKy} (hB : HB h o hh q) (hs : ∀ j, 41 ≤ j → j < 45 → h' (o + 1 + j) = h (o + 1 + j)) : HB h' o hh q := by
  obtain ⟨a, b, c, d, e1, e2, e3, e4, r⟩ := hB
  exact ⟨a, b, c, d, (hs 41 (by decide) (by decide)).trans e1, (hs 42 (by decide) (by decide)).trans e2, (hs 43 (by decide) (by decide)).trans e3, (hs 44 (by decide) (by decide)).trans e4, r⟩
theorem SHm.sx {h : AH} {o : Nat} (hS : SHm h o) : SX h o := ⟨hS.i 35 (by decide) (by decide) rfl, hS.i 36 (by decide) (by decide) rfl, hS.i 40 (by decide) (by decide) rfl⟩
set_option maxHeartbeats 8000000 in
theorem m_builds {l : Launch} {G : GG} {h : AH} {nx : Nat} {Post : Option Value → AH → Nat → Prop} {o hh d : Nat} {D : DD} {f g : Option Nat} {fs : List Value} (hX : XC G ∧ TX l G) (hM : MA h o fs) (hS : SHm h o) (f19 : fs[19]? = some (.int (nI d))) (hD : MPg h o d D) (hw : WD D) (hhh : hh < 2) (hf : okW D f) (hg : okW D g) (hP : ∀ (h1 : AH) (fs1 : List Value), MA h1 o fs1 → SHm h1 o → (∀ k, k ≠ 61 → k ≠ 62 → fs1[k]? = fs[k]?) → (∀ a, (a < o ∨ (o < a ∧ a < o + 1 + 35) ∨ o + 1 + 45 ≤ a) → h1 a = h a) → HB h1 o hh (kOne D f g) → (∀ q h2, h2 ≠ hh → h2 < 2 → WK q → HB h o h2 q → HB h1 o h2 q) → Post none h1 nx) : Runs l G i_X12_builds 0 0 [.ref o, .int (nI hh), .int (flI f), .int (flI g)] h nx Post := by
  obtain ⟨b1, b2, b3, ⟨gI, eI, pI⟩, ⟨gw, ew, pw⟩, ⟨gg, eg, pg⟩, _, hd⟩ := hD
  obtain ⟨g41, e41⟩ := hS.i 41 (by decide) (by decide) rfl
  obtain ⟨g42, e42⟩ := hS.i 42 (by decide) (by decide) rfl
  obtain ⟨g43, e43⟩ := hS.i 43 (by decide) (by decide) rfl
  obtain ⟨g44, e44⟩ := hS.i 44 (by decide) (by decide) rfl
  obtain ⟨g37, e37⟩ := hS.i 37 (by decide) (by decide) rfl
  obtain ⟨g38, e38⟩ := hS.i 38 (by decide) (by decide) rfl
  obtain ⟨g39, e39⟩ := hS.i 39 (by decide) (by decide) rfl
  have hDG := b1
  obtain ⟨_, _, _, _, gR, _, _, _, _, _, _, _, _, e10, _, _, _, _, _, _, _, pR, _⟩ := b1
  refine c_builds (nIn := dI D) (sl := dsl D) hX hM f19 hS.sx hDG ⟨g37, g38, g39, e37, e38, e39⟩ e41 e42 eI e10 ew e43 e44 hd hhh pI hw.i pR hw.r (fun r hr => ⟨pw r hr, hw.s r hr⟩) hw.k (okW_F hf) (okW_F hg) (fun h1 fs1 gsh gse x1 x2 x3 x4 x5 x6 x7 x8 x9 x10 x11 x12 x13 => ?_)
  refine hP h1 fs1 x1 ?_ x2 (fun a ha => x3 a (by omega) (by omega) (by omega) (by omega) (by omega) (by omega) (by omega) (by omega) (by omega) (by omega) (by omega)) ?_ ?_
  · obtain ⟨⟨ga, ka⟩, ⟨gb, kb⟩, ⟨gc, kc⟩⟩ := x4
    obtain ⟨gd, ge, gf, kd, ke, kf⟩ := x5
    refine hS.upd (fun j hj => ?_)
    by_cases c1 : 35 ≤ j ∧ j < 45
    · right
      have c2 : j = 35 ∨ j = 36 ∨ j = 37 ∨ j = 38 ∨ j = 39 ∨ j = 40 ∨ j = 41 ∨ j = 42 ∨ j = 43 ∨ j = 44 := by omega
      rcases c2 with rfl | rfl | rfl | rfl | rfl | rfl | rfl | rfl | rfl | rfl
      · exact ⟨_, ka⟩
      · exact ⟨_, kb⟩
      · exact ⟨_, kd⟩
      · exact ⟨_, ke⟩
      · exact ⟨_, kf⟩
      · exact ⟨_, kc⟩
      · exact ⟨_, x6⟩
      · exact ⟨_, x7⟩
      · exact ⟨_, x8⟩
      · exact ⟨_, x9⟩
    · left
      exact x3 _ (by omega) (by omega) (by omega) (by omega) (by omega) (by omega) (by omega) (by omega) (by omega) (by omega) (by omega)
  · exact ⟨gsh, gse, _, _, x6, x7, x8, x9, pk_us, pk_us, fun on hon v hv => ⟨x12 on hon v hv, x13 on hon v hv⟩⟩
  · intro q h2 n2 l2 hq hB
    obtain ⟨a, b, c, d2, k1, k2, k3, k4, k5, k6, k7⟩ := hB
    rw [e41] at k1; rw [e42] at k2; rw [e43] at k3; rw [e44] at k4
    cases k1; cases k2; cases k3; cases k4
    have hp := hq.1.pr
    have hpi := hq.1.pi
    refine ⟨gsh, gse, _, _, x6, x7, x8, x9, ?_, ?_, fun on hon v hv => ?_⟩
    · rw [pk_un n2]; exact k5
    · rw [pk_un n2]; exact k6
    · rw [x10 _ (by omega), x11 _ (by omega)]
      exact k7 on hon v hv
