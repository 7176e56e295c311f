/-! x asked about a hut -/
/-- the drawing of nothing: x's blank one -/
def D0 : DD := ((0, 0, 0, 0, 0), (fun _ => 0, fun _ => 0, fun _ => 0, fun _ => 0), (fun _ => false, fun _ => false, fun _ => false), fun _ _ => false, fun _ _ _ => false, (fun _ => 0, fun _ => 0, fun _ => 0), fun _ => [])
theorem WD_0 : WD D0 := ⟨by decide, by decide, by decide, by decide, by decide, fun k hk => absurd hk (Nat.not_lt_zero k), fun k hk => absurd hk (Nat.not_lt_zero k), fun k hk => absurd hk (Nat.not_lt_zero k), fun _ _ _ _ => rfl, (fun (c : Nat) _ _ (s : Int64) (hs : s ∈ ([] : List Int64)) => by cases hs), fun k hk => absurd hk (Nat.not_lt_zero k), fun k hk => absurd hk (Nat.not_lt_zero k), fun k hk => absurd hk (Nat.not_lt_zero k)⟩
def xfO (w tl : Nat) (fp : Int32) (c : Nat) (ah : Int32) : List Value := [.ref w, .int (nI tl), .int fp, .ref (w + 1), .ref (w + 30), .int (nI c), .int ah, .ref (w + 31), .ref (w + 43), .ref (w + 48), .ref (w + 52), .ref (w + 60), .ref (w + 64), .ref (w + 70)]
/-- a is where drawing D stands: the blank one's place, or one of those that were read -/
def isDr (w c : Nat) (da : Nat → Nat) (dd : Nat → DD) (a : Nat) (D : DD) : Prop := (a = w + 1 ∧ D = D0) ∨ ∃ i, i < c ∧ a = da i ∧ D = dd i
/-- x and its drawings -/
def XA (h : AH) (o w tl : Nat) (fp : Int32) (c : Nat) (ah : Int32) (da : Nat → Nat) (dd : Nat → DD) : Prop := h o = some (.inr (11, xfO w tl fp c ah)) ∧ (∃ df : Nat → Option Nat, h (w + 30) = some (.inl (4, 4, .inr (.inr (.inr (.inr df))))) ∧ ∀ i, i < c → df i = some (da i)) ∧ c ≤ 4 ∧ XD h (w + 1) D0 ∧ (∀ i, i < c → XD h (da i) (dd i) ∧ WD (dd i) ∧ w + 137 ≤ da i) ∧ (∀ i j, i < j → j < c → da i + 29 ≤ da j) ∧ o < w
theorem XA.ag {h h' : AH} {o w tl c : Nat} {fp ah : Int32} {da : Nat → Nat} {dd : Nat → DD} (hA : XA h o w tl fp c ah da dd) (hs : ∀ x, x = o ∨ (w + 1 ≤ x ∧ x < w + 21) ∨ (w + 28 ≤ x ∧ x < w + 31) ∨ (∃ i, i < c ∧ ((da i ≤ x ∧ x < da i + 20) ∨ (da i + 27 ≤ x ∧ x < da i + 29))) → h' x = h x) : XA h' o w tl fp c ah da dd := by
  obtain ⟨a1, ⟨df, a2, a3⟩, a4, a5, a6, a7, a8⟩ := hA
  exact ⟨(hs o (Or.inl rfl)).trans a1, ⟨df, (hs _ (by omega)).trans a2, a3⟩, a4, a5.ag (fun x hx => hs x (by omega)), fun i hi => ⟨(a6 i hi).1.ag (fun x hx => hs x (Or.inr (Or.inr (Or.inr ⟨i, hi, hx⟩)))), (a6 i hi).2⟩, a7, a8⟩
/-- what is changed lies behind the drawings' small things and ahead of what was read -/
theorem XA.mid {h h' : AH} {o w tl c : Nat} {fp ah : Int32} {da : Nat → Nat} {dd : Nat → DD} (hA : XA h o w tl fp c ah da dd) (hs : ∀ x, x < w + 31 ∨ w + 137 ≤ x → h' x = h x) : XA h' o w tl fp c ah da dd := by
  have h8 := hA.2.2.2.2.2.2
  have h6 := hA.2.2.2.2.1
  refine hA.ag (fun x hx => hs x ?_)
  rcases hx with z | z | z | ⟨i, hi, z⟩
  · omega
  · omega
  · omega
  · have := (h6 i hi).2.2
    omega
theorem isDr.xd {h : AH} {o w tl c a : Nat} {fp ah : Int32} {da : Nat → Nat} {dd : Nat → DD} {D : DD} (hA : XA h o w tl fp c ah da dd) (hi : isDr w c da dd a D) : XD h a D ∧ WD D ∧ (a = w + 1 ∨ w + 137 ≤ a) := by
  rcases hi with ⟨rfl, rfl⟩ | ⟨i, hi, rfl, rfl⟩
  · exact ⟨hA.2.2.2.1, WD_0, Or.inl rfl⟩
  · exact ⟨(hA.2.2.2.2.1 i hi).1, (hA.2.2.2.2.1 i hi).2.1, Or.inr (hA.2.2.2.2.1 i hi).2.2⟩
/-- one place, one drawing -/
theorem isDr.one {h : AH} {o w tl c a : Nat} {fp ah : Int32} {da : Nat → Nat} {dd : Nat → DD} {D E : DD} (hA : XA h o w tl fp c ah da dd) (h1 : isDr w c da dd a D) (h2 : isDr w c da dd a E) : D = E := by
  have h6 := hA.2.2.2.2.1
  have h7 := hA.2.2.2.2.2.1
  rcases h1 with ⟨e1, rfl⟩ | ⟨i, hi, e1, rfl⟩ <;> rcases h2 with ⟨e2, rfl⟩ | ⟨j, hj, e2, rfl⟩
  · rfl
  · have := (h6 j hj).2.2; omega
  · have := (h6 i hi).2.2; omega
  · by_cases c1 : i = j
    · rw [c1]
    · rcases Nat.lt_or_gt_of_ne c1 with z | z
      · have := h7 i j z hj; omega
      · have := h7 j i z hi; omega
/-- the hut that is asked, and the survey -/
def XH (h : AH) (w c : Nat) (da : Nat → Nat) (dd : Nat → DD) (vb : Nat) : Prop := ∃ (q : HKy) (a b ver : Nat), HTx h (w + 43) a b q ver ∧ WK q ∧ isDr w c da dd a (kD q) ∧ isDr w c da dd b (kE q) ∧ SVx h (w + 48) (w + 43) q ver ∧ ver ≤ vb
theorem XH.ag {h h' : AH} {w c vb : Nat} {da : Nat → Nat} {dd : Nat → DD} (hH : XH h w c da dd vb) (hs : ∀ x, w + 43 ≤ x → x < w + 52 → h' x = h x) : XH h' w c da dd vb := by
  obtain ⟨q, a, b, ver, x1, x2, x3, x4, x5, x6⟩ := hH
  exact ⟨q, a, b, ver, x1.ag (fun x _ _ => hs x (by omega) (by omega)), x2, x3, x4, x5.ag (fun x _ _ => hs x (by omega) (by omega)), x6⟩
theorem XH.le {h : AH} {w c vb vc : Nat} {da : Nat → Nat} {dd : Nat → DD} (hH : XH h w c da dd vb) (hl : vb ≤ vc) : XH h w c da dd vc := by
  obtain ⟨q, a, b, ver, x1, x2, x3, x4, x5, x6⟩ := hH
  exact ⟨q, a, b, ver, x1, x2, x3, x4, x5, Nat.le_trans x6 hl⟩
set_option maxHeartbeats 8000000 in
theorem x_current {l : Launch} {G : GG} {h : AH} {nx : Nat} {Post : Option Value → AH → Nat → Prop} {o w tl c t : Nat} {fp : Int32} {da : Nat → Nat} {dd : Nat → DD} (hX : XC G ∧ TX l G) (hA : XA h o w tl fp c (nI t) da dd) (ht : t < c) (hP : Post (some (.ref (da t))) h nx) : Runs l G i_X11_current 0 0 [.ref o] h nx Post := by
  obtain ⟨a1, ⟨df, a2, a3⟩, a4, a5, a6, a7, a8⟩ := hA
  refine c_current (c := c) (d := nI t) hX a1 rfl rfl rfl rfl a4 a2 (fun i hi => ⟨_, a3 i hi⟩) ?_
  rw [show drOf df (w + 1) c (nI t) = da t from by
    unfold drOf
    rw [if_pos ⟨nI_pos' (by omega), nI_lt ht (by omega)⟩, nI_clamp (by omega), a3 t ht]
    rfl]
  exact hP
/-- the hut with flaws f and g of drawing t is made ready -/
theorem prep_world {h h1 : AH} {o w tl c t ver v0 : Nat} {fp ah : Int32} {da : Nat → Nat} {dd : Nat → DD} {q : HKy} (hA : XA h o w tl fp c ah da dd) (hf : ∀ x, x < w + 43 ∨ w + 43 + 2 ≤ x → h1 x = h x) : XA h1 o w tl fp c ah da dd := hA.mid (fun x hx => hf x (by omega))
set_option maxHeartbeats 8000000 in
theorem x_prepDr {l : Launch} {G : GG} {h : AH} {nx : Nat} {Post : Option Value → AH → Nat → Prop} {o w tl c t vb : Nat} {fp ah : Int32} {da : Nat → Nat} {dd : Nat → DD} {f g : Option Nat} (hX : XC G ∧ TX l G) (hA : XA h o w tl fp c ah da dd) (hH : XH h w c da dd vb) (ht : t < c) (hf : okW (dd t) f) (hg : okW (dd t) g) (hv : vb + 1 < 2 ^ 31) (hP : ∀ (h1 : AH) (ver : Nat), (∀ x, x < w + 43 ∨ w + 45 ≤ x → h1 x = h x) → HTx h1 (w + 43) (da t) (da t) (kOne (dd t) f g) ver → SVx h1 (w + 48) (w + 43) (kOne (dd t) f g) ver → ver ≤ vb + 1 → Post none h1 nx) : Runs l G i_X3_prepare 0 0 [.ref (w + 43), .ref (da t), .int (flI f), .int (flI g)] h nx Post := by
  obtain ⟨q, a, b, ver, x1, x2, x3, x4, x5, x6⟩ := hH
  have hdt : isDr w c da dd (da t) (dd t) := Or.inr ⟨t, ht, rfl, rfl⟩
  have hw := (hdt.xd hA).2.1
  refine x_prepare hX x1 (WK_one hw hf hg) (hdt.xd hA).1 (fun e => hdt.one hA (e ▸ x3)) (fun e => hdt.one hA (e ▸ x4)) (fun e1 e2 e3 => ?_) (fun h1 y1 y2 => ?_)
  · refine hP h ver (fun _ _ => rfl) ?_ ?_ (by omega)
    · rw [e3]
      rw [← e1, ← e2] at x1
      exact x1
    · rw [e3]; exact x5
  · exact hP h1 (ver + 1) y1 y2 ((x5.new (by omega)).ag (fun x _ _ => y1 x (by omega))) (by omega)
set_option maxHeartbeats 8000000 in
theorem x_takeHut {l : Launch} {G : GG} {h : AH} {nx : Nat} {Post : Option Value → AH → Nat → Prop} {o w tl c t vb : Nat} {fp : Int32} {da : Nat → Nat} {dd : Nat → DD} {f g : Int32} (hX : XC G ∧ TX l G) (hA : XA h o w tl fp c (nI t) da dd) (hH : XH h w c da dd vb) (ht : t < c) (hv : vb + 1 < 2 ^ 31) (hn : (vFn (dK (dd t)) (dR (dd t)) (dow (dd t)) f && vFn (dK (dd t)) (dR (dd t)) (dow (dd t)) g) = false → Post (some (.int 0)) h nx) (hP : (vFn (dK (dd t)) (dR (dd t)) (dow (dd t)) f && vFn (dK (dd t)) (dR (dd t)) (dow (dd t)) g) = true → ∀ (h1 : AH) (ver : Nat), (∀ x, x < w + 43 ∨ w + 45 ≤ x → h1 x = h x) → WK (kOne (dd t) (fOf f) (fOf g)) → HTx h1 (w + 43) (da t) (da t) (kOne (dd t) (fOf f) (fOf g)) ver → SVx h1 (w + 48) (w + 43) (kOne (dd t) (fOf f) (fOf g)) ver → ver ≤ vb + 1 → Post (some (.int 1)) h1 nx) : Runs l G i_X11_takeHut 0 0 [.ref o, .int f, .int g] h nx Post := by
  have hc := hA.2.2.1
  have hdt : isDr w c da dd (da t) (dd t) := Or.inr ⟨t, ht, rfl, rfl⟩
  obtain ⟨hD, hw, _⟩ := hdt.xd hA
  obtain ⟨cc, g2, g3, g4, g5, g10, g13, g14, g16, g17, g18, g19, g27, g28, g1, g11, g12, d0, _⟩ := id hD
  refine en_X11_takeHut hX [] 60 rfl ?_
  refine Exists.intro _ (And.intro hA.1 (Exists.intro 0 (Exists.intro 0 (And.intro (Nat.le_refl _) (And.intro (Nat.le_refl _) (x_current hX hA ht ?_))))))
  refine Exists.intro _ (And.intro hA.1 (Exists.intro _ (And.intro rfl ?_)))
  refine And.intro (fun cz => absurd cz (fun z => absurd (show nI t < 0 from z ▸ (by decide)) (nI_pos (by omega)))) (fun _ => ?_)
  refine Exists.intro _ (And.intro d0 (Exists.intro 0 (Exists.intro 0 (And.intro (Nat.le_refl _) (And.intro (Nat.le_refl _) (x_isFlawOrNone hX hD hw ?_))))))
  cases ef : vFn (dK (dd t)) (dR (dd t)) (dow (dd t)) f with
  | false =>
    rw [ef, Bool.false_and] at hn
    refine And.intro (fun _ => ?_) (fun cz => by first | exact absurd cz (by decide) | exact absurd (by decide) cz)
    refine And.intro (fun _ => ?_) (fun cz => by first | exact absurd cz (by decide) | exact absurd (by decide) cz)
    exact And.intro rfl (hn rfl)
  | true =>
    rw [ef, Bool.true_and] at hn hP
    refine And.intro (fun cz => by first | exact absurd cz (by decide) | exact absurd (by decide) cz) (fun _ => ?_)
    refine Exists.intro _ (And.intro d0 (Exists.intro 0 (Exists.intro 0 (And.intro (Nat.le_refl _) (And.intro (Nat.le_refl _) (x_isFlawOrNone hX hD hw ?_))))))
    cases eg : vFn (dK (dd t)) (dR (dd t)) (dow (dd t)) g with
    | false =>
      refine And.intro (fun _ => ?_) (fun cz => by first | exact absurd cz (by decide) | exact absurd (by decide) cz)
      refine And.intro (fun _ => ?_) (fun cz => by first | exact absurd cz (by decide) | exact absurd (by decide) cz)
      exact And.intro rfl (hn eg)
    | true =>
      refine And.intro (fun cz => by first | exact absurd cz (by decide) | exact absurd (by decide) cz) (fun _ => ?_)
      refine And.intro (fun cz => by first | exact absurd cz (by decide) | exact absurd (by decide) cz) (fun _ => ?_)
      refine Exists.intro _ (And.intro hA.1 (Exists.intro _ (And.intro rfl ?_)))
      obtain ⟨q, a, b, ver, x1, _⟩ := id hH
      obtain ⟨fs, gm, gw, gl, ge, u0, _⟩ := x1
      have hf1 := fOf_n hw ef
      have hg1 := fOf_n hw eg
      rw [← hf1.1, ← hg1.1]
      refine Exists.intro _ (And.intro u0 (Exists.intro 0 (Exists.intro 0 (And.intro (Nat.le_refl _) (And.intro (Nat.le_refl _) (x_prepDr hX hA hH ht hf1.2 hg1.2 hv (fun h1 ver2 y1 y2 y3 y4 => ?_)))))))
      refine And.intro rfl (hP eg h1 ver2 y1 (WK_one hw hf1.2 hg1.2) y2 y3 y4)
def inB (x : Int32) (n : Nat) : Bool := decide (0 ≤ x) && decide (x < nI (2 ^ n))
theorem inB_c {x : Int32} {n : Nat} (hn : n < 31) : inB x n = true ↔ ∃ j, j < 2 ^ n ∧ x = nI j := by
  have hp : 2 ^ n < 2 ^ 31 := Nat.pow_lt_pow_right (by decide) hn
  unfold inB
  rw [Bool.and_eq_true, decide_eq_true_eq, decide_eq_true_eq]
  constructor
  · rintro ⟨h1, h2⟩
    obtain ⟨j, hj, rfl⟩ := nI_of (Int32.not_lt.mpr h1)
    exact ⟨j, (nI_ltI hj hp).mp h2, rfl⟩
  · rintro ⟨j, hj, rfl⟩
    exact ⟨nI_pos' (by omega), nI_lt hj hp⟩
set_option maxHeartbeats 8000000 in
theorem x_isState {l : Launch} {G : GG} {h : AH} {nx : Nat} {Post : Option Value → AH → Nat → Prop} {o w tl c t : Nat} {fp on up : Int32} {da : Nat → Nat} {dd : Nat → DD} (hX : XC G ∧ TX l G) (hA : XA h o w tl fp c (nI t) da dd) (ht : t < c) (hP : Post (some (.int (nI (inB on (dI (dd t)) && inB up (dR (dd t))).toNat))) h nx) : Runs l G i_X11_isState 0 0 [.ref o, .int on, .int up] h nx Post := by
  have hdt : isDr w c da dd (da t) (dd t) := Or.inr ⟨t, ht, rfl, rfl⟩
  obtain ⟨hD, hw, _⟩ := hdt.xd hA
  have hi := hw.i
  have hr := hw.r
  obtain ⟨cc, g2, g3, g4, g5, g10, g13, g14, g16, g17, g18, g19, g27, g28, g1, g11, g12, d0, _⟩ := id hD
  refine en_X11_isState hX [] 60 rfl ?_
  refine Exists.intro _ (And.intro hA.1 (Exists.intro 0 (Exists.intro 0 (And.intro (Nat.le_refl _) (And.intro (Nat.le_refl _) (x_current hX hA ht ?_))))))
  have e1 : ∀ n, n < 31 → (1 : Int32) <<< (nI n &&& 31) = nI (2 ^ n) := fun n hn => nx_pow (by omega)
  have no : inB on (dI (dd t)) = false → Post (some (.int 0)) h nx := fun z => by rw [z, Bool.false_and] at hP; exact hP
  by_cases c1 : on < 0
  · refine And.intro (fun _ => ?_) (fun cz => absurd (c1) cz)
    exact And.intro rfl (no (by unfold inB; rw [decide_eq_false (Int32.not_le.mpr c1), Bool.false_and]))
  · refine And.intro (fun cz => absurd cz (c1)) (fun _ => ?_)
    refine Exists.intro _ (And.intro d0 (Exists.intro _ (And.intro rfl ?_)))
    by_cases c2 : (1 : Int32) <<< (nI (dI (dd t)) &&& 31) ≤ on
    · refine And.intro (fun _ => ?_) (fun cz => absurd (c2) cz)
      rw [e1 _ (by omega)] at c2
      exact And.intro rfl (no (by unfold inB; rw [decide_eq_false (Int32.not_lt.mpr c2), Bool.and_false]))
    · refine And.intro (fun cz => absurd cz (c2)) (fun _ => ?_)
      rw [e1 _ (by omega)] at c2
      rw [show inB on (dI (dd t)) = true from by unfold inB; rw [decide_eq_true (Int32.not_lt.mp c1), decide_eq_true (Int32.not_le.mp c2)]; rfl, Bool.true_and] at hP
      unfold inB at hP
      by_cases c3 : up < 0
      · refine And.intro (fun _ => ?_) (fun cz => absurd (c3) cz)
        rw [decide_eq_false (Int32.not_le.mpr c3), Bool.false_and] at hP
        exact And.intro rfl (hP)
      · refine And.intro (fun cz => absurd cz (c3)) (fun _ => ?_)
        refine Exists.intro _ (And.intro d0 (Exists.intro _ (And.intro rfl ?_)))
        by_cases c4 : (1 : Int32) <<< (nI (dR (dd t)) &&& 31) ≤ up
        · refine And.intro (fun _ => ?_) (fun cz => absurd (c4) cz)
          rw [e1 _ (by omega)] at c4
          rw [decide_eq_false (Int32.not_lt.mpr c4), Bool.and_false] at hP
          exact And.intro rfl (hP)
        · refine And.intro (fun cz => absurd cz (c4)) (fun _ => ?_)
          rw [e1 _ (by omega)] at c4
          rw [decide_eq_true (Int32.not_lt.mp c3), decide_eq_true (Int32.not_le.mp c4)] at hP
          exact And.intro rfl (hP)
def aHut (D : DD) (f g : Int32) : Bool := vFn (dK D) (dR D) (dow D) f && vFn (dK D) (dR D) (dow D) g
def kFG (D : DD) (f g : Int32) : HKy := kOne D (fOf f) (fOf g)
noncomputable def aSettles (D : DD) (f g on up : Int32) : Int32 := if aHut D f g = true ∧ (inB on (dI D) && inB up (dR D)) = true then kSe (kFG D f g) on.toNatClampNeg (kPl (kFG D f g) up.toNatClampNeg) else -1
noncomputable def aShows (D : DD) (f g on up : Int32) : Int32 := if aHut D f g = true ∧ (inB on (dI D) && inB up (dR D)) = true then nI (kSh (kFG D f g) on.toNatClampNeg up.toNatClampNeg >>> 6) else -1
noncomputable def aStart (D : DD) (f g : Int32) : Int32 := if aHut D f g = true then kSe (kFG D f g) 0 (kSu (kFG D f g)) else -1
noncomputable def aReached (D : DD) (f g : Int32) : Int32 := if aHut D f g = true then nI (kFn (kFG D f g)).1 else -1
noncomputable def aRaces (D : DD) (f g : Int32) : Int32 := if aHut D f g = true then nI (kFn (kFG D f g)).2.2.2 else -1
/-- from where a place was found -/
noncomputable def kFr (q : HKy) (j : Nat) : Nat := ((kFn q).2.2.1 j).1
noncomputable def kDp (q : HKy) : Nat := dpF (kFr q) (kWa q).toNatClampNeg (kWa q).toNatClampNeg
noncomputable def kBad (q : HKy) : Int32 := if kWa q = -1 then -2 else nI (kDp q)
noncomputable def kAct (q : HKy) (i : Int32) : Int32 := if kWa q = -1 ∨ i < 0 ∨ nI (kDp q) ≤ i then -1 else nI ((kFn q).2.2.1 (bkF (kFr q) (kDp q - 1 - i.toNatClampNeg) (kWa q).toNatClampNeg)).2
noncomputable def aBad (D : DD) (f g : Int32) : Int32 := if aHut D f g = true then kBad (kFG D f g) else -1
noncomputable def aBadAct (D : DD) (f g i : Int32) : Int32 := if aHut D f g = true then kAct (kFG D f g) i else -1
theorem HTx.xh {h : AH} {w c vb ver a b : Nat} {da : Nat → Nat} {dd : Nat → DD} {q : HKy} (hH : HTx h (w + 43) a b q ver) (hq : WK q) (ha : isDr w c da dd a (kD q)) (hb : isDr w c da dd b (kE q)) (hS : SVx h (w + 48) (w + 43) q ver) (hv : ver ≤ vb) : XH h w c da dd vb := ⟨q, a, b, ver, hH, hq, ha, hb, hS, hv⟩
theorem SVt.sx {h : AH} {v u ver : Nat} {q : HKy} {S : BS} {wa cm : Int32} {go : Nat → Int32} (hS : SVt h v u (nI ver) S wa cm go) (hk : SVok q S wa cm go) : SVx h v u q ver := ⟨_, S, wa, cm, go, hS, Or.inr ⟨ver, Nat.le_refl _, rfl⟩, fun _ => hk⟩
set_option maxHeartbeats 8000000 in
theorem x_settles {l : Launch} {G : GG} {h : AH} {nx : Nat} {Post : Option Value → AH → Nat → Prop} {o w tl c t vb : Nat} {fp f g on up : Int32} {da : Nat → Nat} {dd : Nat → DD} (hX : XC G ∧ TX l G) (hA : XA h o w tl fp c (nI t) da dd) (hH : XH h w c da dd vb) (ht : t < c) (hv : vb + 1 < 2 ^ 31) (hP : ∀ h1 : AH, (∀ x, x < w + 43 ∨ w + 52 ≤ x → h1 x = h x) → XH h1 w c da dd (vb + 1) → Post (some (.int (aSettles (dd t) f g on up))) h1 nx) : Runs l G i_X11_settles 0 0 [.ref o, .int f, .int g, .int on, .int up] h nx Post := by
  have hdt : isDr w c da dd (da t) (dd t) := Or.inr ⟨t, ht, rfl, rfl⟩
  have hw := (hdt.xd hA).2.1
  refine en_X11_settles hX [] 60 rfl ?_
  refine Exists.intro _ (And.intro hA.1 (Exists.intro 0 (Exists.intro 0 (And.intro (Nat.le_refl _) (And.intro (Nat.le_refl _) (x_takeHut hX hA hH ht hv (fun e => ?_) (fun e h1 ver y1 y2 y3 y4 y5 => ?_)))))))
  · refine And.intro (fun _ => ?_) (fun cz => by first | exact absurd cz (by decide) | exact absurd (by decide) cz)
    have hP := hP h (fun _ _ => rfl) (hH.le (by omega))
    unfold aSettles aHut at hP
    rw [e, if_neg (fun z => absurd z.1 (by decide))] at hP
    exact And.intro rfl (hP)
  · have hA1 : XA h1 o w tl fp c (nI t) da dd := hA.mid (fun x hx => y1 x (by omega))
    obtain ⟨hD1, _, hlo⟩ := hdt.xd hA1
    refine And.intro (fun cz => by first | exact absurd cz (by decide) | exact absurd (by decide) cz) (fun _ => ?_)
    refine Exists.intro _ (And.intro hA1.1 (Exists.intro 0 (Exists.intro 0 (And.intro (Nat.le_refl _) (And.intro (Nat.le_refl _) (x_isState hX hA1 ht ?_))))))
    cases es : (inB on (dI (dd t)) && inB up (dR (dd t))) with
    | false =>
      refine And.intro (fun cz => by first | exact absurd cz (by decide) | exact absurd (by decide) cz) (fun _ => ?_)
      have hP := hP h1 (fun x hx => y1 x (by omega)) (y3.xh y2 hdt hdt y4 y5)
      unfold aSettles at hP
      rw [es, if_neg (fun z => absurd z.2 (by decide))] at hP
      exact And.intro rfl (hP)
    | true =>
      refine And.intro (fun _ => ?_) (fun cz => by first | exact absurd cz (by decide) | exact absurd (by decide) cz)
      refine Exists.intro _ (And.intro hA1.1 (Exists.intro _ (And.intro rfl ?_)))
      obtain ⟨fs, gm, gw, gl, ge, u0, _⟩ := id y3
      rw [Bool.and_eq_true] at es
      have hi := hw.i
      have hr := hw.r
      have hpr := hw.pr
      obtain ⟨jo, ho, rfl⟩ := (inB_c (by omega)).mp es.1
      obtain ⟨ju, hu, rfl⟩ := (inB_c (by omega)).mp es.2
      have hpi := hw.pi
      refine Exists.intro _ (And.intro u0 (Exists.intro 0 (Exists.intro 0 (And.intro (Nat.le_refl _) (And.intro (Nat.le_refl _) (x_settle (on := jo) (bb := ju) hX y3 y2 hD1 hD1 (by unfold awy; omega) (by unfold awy; omega) ho (by omega) (by rw [Nat.mod_eq_of_lt (by omega)]; exact hu) (fun h2 z1 z2 => ?_)))))))
      have hP := hP h2 (fun x hx => (z1 x (by omega)).trans (y1 x (by omega))) (z2.xh y2 hdt hdt (y4.ag (fun x _ _ => z1 x (by omega))) y5)
      unfold aSettles aHut at hP
      rw [if_pos ⟨e, by rw [es.1, es.2]; rfl⟩, nI_clamp (by omega), nI_clamp (by omega)] at hP
      rw [Nat.mod_eq_of_lt (show ju < 64 by omega)]
      exact And.intro rfl (hP)
set_option maxHeartbeats 8000000 in
theorem x_shows {l : Launch} {G : GG} {h : AH} {nx : Nat} {Post : Option Value → AH → Nat → Prop} {o w tl c t vb : Nat} {fp f g on up : Int32} {da : Nat → Nat} {dd : Nat → DD} (hX : XC G ∧ TX l G) (hA : XA h o w tl fp c (nI t) da dd) (hH : XH h w c da dd vb) (ht : t < c) (hv : vb + 1 < 2 ^ 31) (hP : ∀ h1 : AH, (∀ x, x < w + 43 ∨ w + 52 ≤ x → h1 x = h x) → XH h1 w c da dd (vb + 1) → Post (some (.int (aShows (dd t) f g on up))) h1 nx) : Runs l G i_X11_shows 0 0 [.ref o, .int f, .int g, .int on, .int up] h nx Post := by
  have hdt : isDr w c da dd (da t) (dd t) := Or.inr ⟨t, ht, rfl, rfl⟩
  have hw := (hdt.xd hA).2.1
  refine en_X11_shows hX [] 60 rfl ?_
  refine Exists.intro _ (And.intro hA.1 (Exists.intro 0 (Exists.intro 0 (And.intro (Nat.le_refl _) (And.intro (Nat.le_refl _) (x_takeHut hX hA hH ht hv (fun e => ?_) (fun e h1 ver y1 y2 y3 y4 y5 => ?_)))))))
  · refine And.intro (fun _ => ?_) (fun cz => by first | exact absurd cz (by decide) | exact absurd (by decide) cz)
    have hP := hP h (fun _ _ => rfl) (hH.le (by omega))
    unfold aShows aHut at hP
    rw [e, if_neg (fun z => absurd z.1 (by decide))] at hP
    exact And.intro rfl (hP)
  · have hA1 : XA h1 o w tl fp c (nI t) da dd := hA.mid (fun x hx => y1 x (by omega))
    obtain ⟨hD1, _, hlo⟩ := hdt.xd hA1
    refine And.intro (fun cz => by first | exact absurd cz (by decide) | exact absurd (by decide) cz) (fun _ => ?_)
    refine Exists.intro _ (And.intro hA1.1 (Exists.intro 0 (Exists.intro 0 (And.intro (Nat.le_refl _) (And.intro (Nat.le_refl _) (x_isState hX hA1 ht ?_))))))
    have hP := hP h1 (fun x hx => y1 x (by omega)) (y3.xh y2 hdt hdt y4 y5)
    unfold aShows aHut at hP
    cases es : (inB on (dI (dd t)) && inB up (dR (dd t))) with
    | false =>
      refine And.intro (fun cz => by first | exact absurd cz (by decide) | exact absurd (by decide) cz) (fun _ => ?_)
      rw [es, if_neg (fun z => absurd z.2 (by decide))] at hP
      exact And.intro rfl (hP)
    | true =>
      refine And.intro (fun _ => ?_) (fun cz => by first | exact absurd cz (by decide) | exact absurd (by decide) cz)
      refine Exists.intro _ (And.intro hA1.1 (Exists.intro _ (And.intro rfl ?_)))
      obtain ⟨fs, gm, gw, gl, ge, u0, _⟩ := id y3
      rw [if_pos ⟨e, es⟩] at hP
      rw [Bool.and_eq_true] at es
      have hi := hw.i
      have hr := hw.r
      have hpr := hw.pr
      have hpi := hw.pi
      obtain ⟨jo, ho, rfl⟩ := (inB_c (by omega)).mp es.1
      obtain ⟨ju, hu, rfl⟩ := (inB_c (by omega)).mp es.2
      rw [nI_clamp (by omega), nI_clamp (by omega)] at hP
      refine Exists.intro _ (And.intro u0 (Exists.intro 0 (Exists.intro 0 (And.intro (Nat.le_refl _) (And.intro (Nat.le_refl _) (x_lampsAt hX y3 y2 hD1 hD1 ho (by omega) ?_))))))
      exact And.intro rfl (hP)
set_option maxHeartbeats 8000000 in
theorem x_start {l : Launch} {G : GG} {h : AH} {nx : Nat} {Post : Option Value → AH → Nat → Prop} {o w tl c t vb : Nat} {fp f g : Int32} {da : Nat → Nat} {dd : Nat → DD} (hX : XC G ∧ TX l G) (hA : XA h o w tl fp c (nI t) da dd) (hH : XH h w c da dd vb) (ht : t < c) (hv : vb + 1 < 2 ^ 31) (hP : ∀ h1 : AH, (∀ x, x < w + 43 ∨ w + 52 ≤ x → h1 x = h x) → XH h1 w c da dd (vb + 1) → Post (some (.int (aStart (dd t) f g))) h1 nx) : Runs l G i_X11_start 0 0 [.ref o, .int f, .int g] h nx Post := by
  have hdt : isDr w c da dd (da t) (dd t) := Or.inr ⟨t, ht, rfl, rfl⟩
  have hw := (hdt.xd hA).2.1
  refine en_X11_start hX [] 60 rfl ?_
  refine Exists.intro _ (And.intro hA.1 (Exists.intro 0 (Exists.intro 0 (And.intro (Nat.le_refl _) (And.intro (Nat.le_refl _) (x_takeHut hX hA hH ht hv (fun e => ?_) (fun e h1 ver y1 y2 y3 y4 y5 => ?_)))))))
  · refine And.intro (fun _ => ?_) (fun cz => by first | exact absurd cz (by decide) | exact absurd (by decide) cz)
    have hP := hP h (fun _ _ => rfl) (hH.le (by omega))
    unfold aStart aHut at hP
    rw [e, if_neg (by decide)] at hP
    exact And.intro rfl (hP)
  · have hA1 : XA h1 o w tl fp c (nI t) da dd := hA.mid (fun x hx => y1 x (by omega))
    obtain ⟨hD1, _, hlo⟩ := hdt.xd hA1
    refine And.intro (fun cz => by first | exact absurd cz (by decide) | exact absurd (by decide) cz) (fun _ => ?_)
    refine Exists.intro _ (And.intro hA1.1 (Exists.intro _ (And.intro rfl ?_)))
    obtain ⟨fs, gm, gw, gl, ge, u0, _⟩ := id y3
    refine Exists.intro _ (And.intro u0 (Exists.intro 0 (Exists.intro 0 (And.intro (Nat.le_refl _) (And.intro (Nat.le_refl _) (x_settle (on := 0) (bb := 0) hX y3 y2 hD1 hD1 (by unfold awy; omega) (by unfold awy; omega) (Nat.two_pow_pos _) (by decide) (Nat.two_pow_pos _) (fun h2 z1 z2 => ?_)))))))
    have hP := hP h2 (fun x hx => (z1 x (by omega)).trans (y1 x (by omega))) (z2.xh y2 hdt hdt (y4.ag (fun x _ _ => z1 x (by omega))) y5)
    unfold aStart aHut at hP
    rw [if_pos e] at hP
    rw [show kPl (kOne (dd t) (fOf f) (fOf g)) (0 % 64) = kSu (kOne (dd t) (fOf f) (fOf g)) from plc_0]
    exact And.intro rfl (hP)
/-- the survey tells the acts to what is wrong -/
theorem kFr_ok {q : HKy} {n : Nat} {go : Nat → Int32} (hg : ∀ j, 0 < j → j < n → go j = nI (8 * ((kFn q).2.2.1 j).1 + ((kFn q).2.2.1 j).2) ∧ ((kFn q).2.2.1 j).1 < j ∧ ((kFn q).2.2.1 j).2 < 8) : ∀ j, 0 < j → j < n → go j = nI (8 * kFr q j + ((kFn q).2.2.1 j).2) ∧ kFr q j < j ∧ ((kFn q).2.2.1 j).2 < 8 := hg
set_option maxHeartbeats 8000000 in
theorem x_actsToWrong {l : Launch} {G : GG} {h : AH} {nx : Nat} {Post : Option Value → AH → Nat → Prop} {v qo n : Nat} {q : HKy} {wa : Int32} {go : Nat → Int32} {fs : List Value} (hX : XC G ∧ TX l G) (hv : h v = some (.inr (7, fs))) (f2 : fs[2]? = some (.ref qo)) (f6 : fs[6]? = some (.int wa)) (ho : h qo = some (.inl (0, 2048, .inl go))) (hwa : wa = kWa q) (hn : n ≤ 2048) (hg : ∀ j, 0 < j → j < n → go j = nI (8 * ((kFn q).2.2.1 j).1 + ((kFn q).2.2.1 j).2) ∧ ((kFn q).2.2.1 j).1 < j ∧ ((kFn q).2.2.1 j).2 < 8) (hk : wa = -1 ∨ ∃ j, j < n ∧ wa = nI j) (hP : Post (some (.int (kBad q))) h nx) : Runs l G i_X7_actsToWrong 0 0 [.ref v] h nx Post := by
  rcases hk with rfl | ⟨j, hj, rfl⟩
  · unfold kBad at hP
    rw [if_pos hwa.symm] at hP
    exact c_actsToWrongNo hX hv f6 hP
  · have h1 : kWa q ≠ -1 := by
      rw [← hwa]
      exact fun z => absurd (show nI j < 0 from z ▸ (by decide)) (nI_pos (by omega))
    unfold kBad kDp at hP
    rw [if_neg h1, ← hwa, nI_clamp (by omega)] at hP
    exact c_actsToWrong hX hv f2 f6 ho hn (kFr_ok hg) hj hP
set_option maxHeartbeats 8000000 in
theorem x_actToWrong {l : Launch} {G : GG} {h : AH} {nx : Nat} {Post : Option Value → AH → Nat → Prop} {v qo n : Nat} {q : HKy} {wa i : Int32} {go : Nat → Int32} {fs : List Value} (hX : XC G ∧ TX l G) (hv : h v = some (.inr (7, fs))) (f2 : fs[2]? = some (.ref qo)) (f6 : fs[6]? = some (.int wa)) (ho : h qo = some (.inl (0, 2048, .inl go))) (hwa : wa = kWa q) (hn : n ≤ 2048) (hg : ∀ j, 0 < j → j < n → go j = nI (8 * ((kFn q).2.2.1 j).1 + ((kFn q).2.2.1 j).2) ∧ ((kFn q).2.2.1 j).1 < j ∧ ((kFn q).2.2.1 j).2 < 8) (hk : wa = -1 ∨ ∃ j, j < n ∧ wa = nI j) (hP : Post (some (.int (kAct q i))) h nx) : Runs l G i_X7_actToWrong 0 0 [.ref v, .int i] h nx Post := by
  have hno : ∀ {b : Int32}, b = kBad q → (kWa q = -1 ∨ i < 0 ∨ nI (kDp q) ≤ i) → Runs l G i_X7_actToWrong 0 0 [.ref v, .int i] h nx Post := by
    intro b hb hc
    unfold kAct at hP
    rw [if_pos hc] at hP
    refine en_X7_actToWrong hX [26] 40 rfl ?_
    refine Exists.intro _ (And.intro hv (Exists.intro 0 (Exists.intro 0 (And.intro (Nat.le_refl _) (And.intro (Nat.le_refl _) (x_actsToWrong hX hv f2 f6 ho hwa hn hg hk ?_))))))
    by_cases c1 : i < 0
    · refine And.intro (fun _ => ?_) (fun cz => absurd (c1) cz)
      exact And.intro rfl (hP)
    · refine And.intro (fun cz => absurd cz (c1)) (fun _ => ?_)
      rcases hc with e | e | e
      · rw [show kBad q = -2 from by unfold kBad; exact if_pos e]
        refine And.intro (fun cz => absurd cz (fun z => c1 (Int32.lt_trans z (by decide)))) (fun _ => ?_)
        exact And.intro rfl (hP)
      · exact absurd e c1
      · by_cases e2 : kWa q = -1
        · rw [show kBad q = -2 from by unfold kBad; exact if_pos e2]
          refine And.intro (fun cz => absurd cz (fun z => c1 (Int32.lt_trans z (by decide)))) (fun _ => ?_)
          exact And.intro rfl (hP)
        · rw [show kBad q = nI (kDp q) from by unfold kBad; exact if_neg e2]
          refine And.intro (fun cz => absurd cz (Int32.not_lt.mpr e)) (fun _ => ?_)
          exact And.intro rfl (hP)
  by_cases hc : kWa q = -1 ∨ i < 0 ∨ nI (kDp q) ≤ i
  · exact hno rfl hc
  · rcases hk with rfl | ⟨j, hj, rfl⟩
    · exact absurd (Or.inl hwa.symm) hc
    · have h3 : ¬ i < 0 := fun z => hc (Or.inr (Or.inl z))
      have h4 : ¬ nI (kDp q) ≤ i := fun z => hc (Or.inr (Or.inr z))
      obtain ⟨k, hk2, rfl⟩ := nI_of h3
      unfold kAct at hP
      rw [if_neg hc, ← hwa, nI_clamp hk2, nI_clamp (show j < 2 ^ 31 by omega)] at hP
      have e5 : kDp q = dpF (kFr q) j j := by unfold kDp; rw [← hwa, nI_clamp (by omega)]
      have h6 : dpF (kFr q) j j ≤ j := dpF_le (fun a h1 h2 => (kFr_ok hg a h1 h2).2.1) j j (Nat.le_refl _) hj
      rw [e5] at hP h4
      exact c_actToWrong (by_ := fun j => ((kFn q).2.2.1 j).2) hX hv f2 f6 ho hn (kFr_ok hg) hj ((nI_ltI hk2 (by omega)).mp (Int32.not_le.mp h4)) hP
set_option maxHeartbeats 8000000 in
theorem x_reached {l : Launch} {G : GG} {h : AH} {nx : Nat} {Post : Option Value → AH → Nat → Prop} {o w tl c t vb : Nat} {fp f g : Int32} {da : Nat → Nat} {dd : Nat → DD} (hX : XC G ∧ TX l G) (hA : XA h o w tl fp c (nI t) da dd) (hH : XH h w c da dd vb) (ht : t < c) (hv : vb + 1 < 2 ^ 31) (hP : ∀ h1 : AH, (∀ x, x < w + 43 ∨ w + 52 ≤ x → h1 x = h x) → XH h1 w c da dd (vb + 1) → Post (some (.int (aReached (dd t) f g))) h1 nx) : Runs l G i_X11_reached 0 0 [.ref o, .int f, .int g] h nx Post := by
  have hdt : isDr w c da dd (da t) (dd t) := Or.inr ⟨t, ht, rfl, rfl⟩
  have hw := (hdt.xd hA).2.1
  refine en_X11_reached hX [] 60 rfl ?_
  refine Exists.intro _ (And.intro hA.1 (Exists.intro 0 (Exists.intro 0 (And.intro (Nat.le_refl _) (And.intro (Nat.le_refl _) (x_takeHut hX hA hH ht hv (fun e => ?_) (fun e h1 ver y1 y2 y3 y4 y5 => ?_)))))))
  · refine And.intro (fun cz => by first | exact absurd cz (by decide) | exact absurd (by decide) cz) (fun _ => ?_)
    have hP := hP h (fun _ _ => rfl) (hH.le (by omega))
    unfold aReached aHut at hP
    rw [e, if_neg (by decide)] at hP
    exact And.intro rfl (hP)
  · have hA1 : XA h1 o w tl fp c (nI t) da dd := hA.mid (fun x hx => y1 x (by omega))
    obtain ⟨hD1, _, hlo⟩ := hdt.xd hA1
    refine And.intro (fun _ => ?_) (fun cz => by first | exact absurd cz (by decide) | exact absurd (by decide) cz)
    refine Exists.intro _ (And.intro hA1.1 (Exists.intro _ (And.intro rfl ?_)))
    obtain ⟨_, _, _, _, _, ⟨_, _, _, s0, _⟩, _⟩ := id y4
    refine Exists.intro _ (And.intro s0 (Exists.intro 0 (Exists.intro 0 (And.intro (Nat.le_refl _) (And.intro (Nat.le_refl _) (x_explore (A := 0) (B := 0) hX y3 y2 hD1 hD1 (by unfold awy; omega) (by unfold awy; omega) y4 rfl (by omega) (by omega) (fun h2 S wa cm go z1 z2 z3 z4 z5 => ?_)))))))
    have hA2 : XA h2 o w tl fp c (nI t) da dd := hA1.mid (fun x hx => z1 x (by omega))
    refine Exists.intro _ (And.intro hA2.1 (Exists.intro _ (And.intro rfl ?_)))
    have hP := hP h2 (fun x hx => (z1 x (by omega)).trans (y1 x (by omega))) (z2.xh y2 hdt hdt (z3.sx z4) y5)
    unfold aReached aHut at hP
    rw [if_pos e] at hP
    obtain ⟨fs, gq, gs, c0, cl, cf0, cf1, cf2, cf3, cf4, cf5, cf6, cf7, cf8, cq, co, cs⟩ := z3
    obtain ⟨k1, k0, k2, k3, k4, k5⟩ := z4
    have hcm : cm = 1 := by
      rcases z5 with z | z | z
      · exact z
      · exact absurd rfl z.1
      · exact absurd rfl z.1
    have hfin : S.1 = (kFn (kFG (dd t) f g)).1 ∧ S.2.2.2 = (kFn (kFG (dd t) f g)).2.2.2 := by
      rcases k4 with ⟨_, x1, x2, _⟩ | ⟨x1, _⟩
      · exact ⟨x1, x2⟩
      · rw [hcm] at x1; exact absurd x1 (by decide)
    refine Exists.intro _ (And.intro c0 (Exists.intro 0 (Exists.intro 0 (And.intro (Nat.le_refl _) (And.intro (Nat.le_refl _) ?_)))))
    refine en_X7_reachedCount hX [] 10 rfl ?_
    refine Exists.intro _ (And.intro c0 (Exists.intro _ (And.intro cf4 ?_)))
    refine And.intro rfl ?_
    rw [← hfin.1] at hP
    exact And.intro rfl (hP)
set_option maxHeartbeats 8000000 in
theorem x_races {l : Launch} {G : GG} {h : AH} {nx : Nat} {Post : Option Value → AH → Nat → Prop} {o w tl c t vb : Nat} {fp f g : Int32} {da : Nat → Nat} {dd : Nat → DD} (hX : XC G ∧ TX l G) (hA : XA h o w tl fp c (nI t) da dd) (hH : XH h w c da dd vb) (ht : t < c) (hv : vb + 1 < 2 ^ 31) (hP : ∀ h1 : AH, (∀ x, x < w + 43 ∨ w + 52 ≤ x → h1 x = h x) → XH h1 w c da dd (vb + 1) → Post (some (.int (aRaces (dd t) f g))) h1 nx) : Runs l G i_X11_races 0 0 [.ref o, .int f, .int g] h nx Post := by
  have hdt : isDr w c da dd (da t) (dd t) := Or.inr ⟨t, ht, rfl, rfl⟩
  have hw := (hdt.xd hA).2.1
  refine en_X11_races hX [] 60 rfl ?_
  refine Exists.intro _ (And.intro hA.1 (Exists.intro 0 (Exists.intro 0 (And.intro (Nat.le_refl _) (And.intro (Nat.le_refl _) (x_takeHut hX hA hH ht hv (fun e => ?_) (fun e h1 ver y1 y2 y3 y4 y5 => ?_)))))))
  · refine And.intro (fun cz => by first | exact absurd cz (by decide) | exact absurd (by decide) cz) (fun _ => ?_)
    have hP := hP h (fun _ _ => rfl) (hH.le (by omega))
    unfold aRaces aHut at hP
    rw [e, if_neg (by decide)] at hP
    exact And.intro rfl (hP)
  · have hA1 : XA h1 o w tl fp c (nI t) da dd := hA.mid (fun x hx => y1 x (by omega))
    obtain ⟨hD1, _, hlo⟩ := hdt.xd hA1
    refine And.intro (fun _ => ?_) (fun cz => by first | exact absurd cz (by decide) | exact absurd (by decide) cz)
    refine Exists.intro _ (And.intro hA1.1 (Exists.intro _ (And.intro rfl ?_)))
    obtain ⟨_, _, _, _, _, ⟨_, _, _, s0, _⟩, _⟩ := id y4
    refine Exists.intro _ (And.intro s0 (Exists.intro 0 (Exists.intro 0 (And.intro (Nat.le_refl _) (And.intro (Nat.le_refl _) (x_explore (A := 0) (B := 0) hX y3 y2 hD1 hD1 (by unfold awy; omega) (by unfold awy; omega) y4 rfl (by omega) (by omega) (fun h2 S wa cm go z1 z2 z3 z4 z5 => ?_)))))))
    have hA2 : XA h2 o w tl fp c (nI t) da dd := hA1.mid (fun x hx => z1 x (by omega))
    refine Exists.intro _ (And.intro hA2.1 (Exists.intro _ (And.intro rfl ?_)))
    have hP := hP h2 (fun x hx => (z1 x (by omega)).trans (y1 x (by omega))) (z2.xh y2 hdt hdt (z3.sx z4) y5)
    unfold aRaces aHut at hP
    rw [if_pos e] at hP
    obtain ⟨fs, gq, gs, c0, cl, cf0, cf1, cf2, cf3, cf4, cf5, cf6, cf7, cf8, cq, co, cs⟩ := z3
    obtain ⟨k1, k0, k2, k3, k4, k5⟩ := z4
    have hcm : cm = 1 := by
      rcases z5 with z | z | z
      · exact z
      · exact absurd rfl z.1
      · exact absurd rfl z.1
    have hfin : S.1 = (kFn (kFG (dd t) f g)).1 ∧ S.2.2.2 = (kFn (kFG (dd t) f g)).2.2.2 := by
      rcases k4 with ⟨_, x1, x2, _⟩ | ⟨x1, _⟩
      · exact ⟨x1, x2⟩
      · rw [hcm] at x1; exact absurd x1 (by decide)
    refine Exists.intro _ (And.intro c0 (Exists.intro 0 (Exists.intro 0 (And.intro (Nat.le_refl _) (And.intro (Nat.le_refl _) ?_)))))
    refine en_X7_raceCount hX [] 10 rfl ?_
    refine Exists.intro _ (And.intro c0 (Exists.intro _ (And.intro cf5 ?_)))
    refine And.intro rfl ?_
    rw [← hfin.2] at hP
    exact And.intro rfl (hP)
set_option maxHeartbeats 8000000 in
theorem x_bad {l : Launch} {G : GG} {h : AH} {nx : Nat} {Post : Option Value → AH → Nat → Prop} {o w tl c t vb : Nat} {fp f g : Int32} {da : Nat → Nat} {dd : Nat → DD} (hX : XC G ∧ TX l G) (hA : XA h o w tl fp c (nI t) da dd) (hH : XH h w c da dd vb) (ht : t < c) (hv : vb + 1 < 2 ^ 31) (hP : ∀ h1 : AH, (∀ x, x < w + 43 ∨ w + 52 ≤ x → h1 x = h x) → XH h1 w c da dd (vb + 1) → Post (some (.int (aBad (dd t) f g))) h1 nx) : Runs l G i_X11_bad 0 0 [.ref o, .int f, .int g] h nx Post := by
  have hdt : isDr w c da dd (da t) (dd t) := Or.inr ⟨t, ht, rfl, rfl⟩
  have hw := (hdt.xd hA).2.1
  refine en_X11_bad hX [] 60 rfl ?_
  refine Exists.intro _ (And.intro hA.1 (Exists.intro 0 (Exists.intro 0 (And.intro (Nat.le_refl _) (And.intro (Nat.le_refl _) (x_takeHut hX hA hH ht hv (fun e => ?_) (fun e h1 ver y1 y2 y3 y4 y5 => ?_)))))))
  · refine And.intro (fun cz => by first | exact absurd cz (by decide) | exact absurd (by decide) cz) (fun _ => ?_)
    have hP := hP h (fun _ _ => rfl) (hH.le (by omega))
    unfold aBad aHut at hP
    rw [e, if_neg (by decide)] at hP
    exact And.intro rfl (hP)
  · have hA1 : XA h1 o w tl fp c (nI t) da dd := hA.mid (fun x hx => y1 x (by omega))
    obtain ⟨hD1, _, hlo⟩ := hdt.xd hA1
    refine And.intro (fun _ => ?_) (fun cz => by first | exact absurd cz (by decide) | exact absurd (by decide) cz)
    refine Exists.intro _ (And.intro hA1.1 (Exists.intro _ (And.intro rfl ?_)))
    obtain ⟨_, _, _, _, _, ⟨_, _, _, s0, _⟩, _⟩ := id y4
    refine Exists.intro _ (And.intro s0 (Exists.intro 0 (Exists.intro 0 (And.intro (Nat.le_refl _) (And.intro (Nat.le_refl _) (x_explore (A := 1) (B := 0) hX y3 y2 hD1 hD1 (by unfold awy; omega) (by unfold awy; omega) y4 rfl (by omega) (by omega) (fun h2 S wa cm go z1 z2 z3 z4 z5 => ?_)))))))
    have hA2 : XA h2 o w tl fp c (nI t) da dd := hA1.mid (fun x hx => z1 x (by omega))
    refine Exists.intro _ (And.intro hA2.1 (Exists.intro _ (And.intro rfl ?_)))
    have hP := hP h2 (fun x hx => (z1 x (by omega)).trans (y1 x (by omega))) (z2.xh y2 hdt hdt (z3.sx z4) y5)
    unfold aBad aHut at hP
    rw [if_pos e] at hP
    obtain ⟨fs, gq, gs, c0, cl, cf0, cf1, cf2, cf3, cf4, cf5, cf6, cf7, cf8, cq, co, cs⟩ := z3
    obtain ⟨k1, k0, k2, k3, k4, k5⟩ := z4
    have hwa : wa = kWa (kOne (dd t) (fOf f) (fOf g)) := by
      rcases k4 with ⟨_, _, _, x3⟩ | ⟨x1, x2⟩
      · exact x3
      · rcases x2 with x2 | ⟨x2, _⟩
        · exact x2.2
        · rcases z5 with z | z | z
          · rw [x1] at z; exact absurd z (by decide)
          · rw [x2] at z; exact absurd z.2 (by decide)
          · exact absurd rfl z.1
    refine Exists.intro _ (And.intro c0 (Exists.intro 0 (Exists.intro 0 (And.intro (Nat.le_refl _) (And.intro (Nat.le_refl _) ?_)))))
    exact x_actsToWrong hX c0 cf2 cf6 co hwa (by omega) k3 k5 (And.intro rfl hP)
set_option maxHeartbeats 8000000 in
theorem x_badAct {l : Launch} {G : GG} {h : AH} {nx : Nat} {Post : Option Value → AH → Nat → Prop} {o w tl c t vb : Nat} {fp f g i : Int32} {da : Nat → Nat} {dd : Nat → DD} (hX : XC G ∧ TX l G) (hA : XA h o w tl fp c (nI t) da dd) (hH : XH h w c da dd vb) (ht : t < c) (hv : vb + 1 < 2 ^ 31) (hP : ∀ h1 : AH, (∀ x, x < w + 43 ∨ w + 52 ≤ x → h1 x = h x) → XH h1 w c da dd (vb + 1) → Post (some (.int (aBadAct (dd t) f g i))) h1 nx) : Runs l G i_X11_badAct 0 0 [.ref o, .int f, .int g, .int i] h nx Post := by
  have hdt : isDr w c da dd (da t) (dd t) := Or.inr ⟨t, ht, rfl, rfl⟩
  have hw := (hdt.xd hA).2.1
  refine en_X11_badAct hX [] 60 rfl ?_
  refine Exists.intro _ (And.intro hA.1 (Exists.intro 0 (Exists.intro 0 (And.intro (Nat.le_refl _) (And.intro (Nat.le_refl _) (x_takeHut hX hA hH ht hv (fun e => ?_) (fun e h1 ver y1 y2 y3 y4 y5 => ?_)))))))
  · refine And.intro (fun cz => by first | exact absurd cz (by decide) | exact absurd (by decide) cz) (fun _ => ?_)
    have hP := hP h (fun _ _ => rfl) (hH.le (by omega))
    unfold aBadAct aHut at hP
    rw [e, if_neg (by decide)] at hP
    exact And.intro rfl (hP)
  · have hA1 : XA h1 o w tl fp c (nI t) da dd := hA.mid (fun x hx => y1 x (by omega))
    obtain ⟨hD1, _, hlo⟩ := hdt.xd hA1
    refine And.intro (fun _ => ?_) (fun cz => by first | exact absurd cz (by decide) | exact absurd (by decide) cz)
    refine Exists.intro _ (And.intro hA1.1 (Exists.intro _ (And.intro rfl ?_)))
    obtain ⟨_, _, _, _, _, ⟨_, _, _, s0, _⟩, _⟩ := id y4
    refine Exists.intro _ (And.intro s0 (Exists.intro 0 (Exists.intro 0 (And.intro (Nat.le_refl _) (And.intro (Nat.le_refl _) (x_explore (A := 1) (B := 0) hX y3 y2 hD1 hD1 (by unfold awy; omega) (by unfold awy; omega) y4 rfl (by omega) (by omega) (fun h2 S wa cm go z1 z2 z3 z4 z5 => ?_)))))))
    have hA2 : XA h2 o w tl fp c (nI t) da dd := hA1.mid (fun x hx => z1 x (by omega))
    refine Exists.intro _ (And.intro hA2.1 (Exists.intro _ (And.intro rfl ?_)))
    have hP := hP h2 (fun x hx => (z1 x (by omega)).trans (y1 x (by omega))) (z2.xh y2 hdt hdt (z3.sx z4) y5)
    unfold aBadAct aHut at hP
    rw [if_pos e] at hP
    obtain ⟨fs, gq, gs, c0, cl, cf0, cf1, cf2, cf3, cf4, cf5, cf6, cf7, cf8, cq, co, cs⟩ := z3
    obtain ⟨k1, k0, k2, k3, k4, k5⟩ := z4
    have hwa : wa = kWa (kOne (dd t) (fOf f) (fOf g)) := by
      rcases k4 with ⟨_, _, _, x3⟩ | ⟨x1, x2⟩
      · exact x3
      · rcases x2 with x2 | ⟨x2, _⟩
        · exact x2.2
        · rcases z5 with z | z | z
          · rw [x1] at z; exact absurd z (by decide)
          · rw [x2] at z; exact absurd z.2 (by decide)
          · exact absurd rfl z.1
    refine Exists.intro _ (And.intro c0 (Exists.intro 0 (Exists.intro 0 (And.intro (Nat.le_refl _) (And.intro (Nat.le_refl _) ?_)))))
    exact x_actToWrong hX c0 cf2 cf6 co hwa (by omega) k3 k5 (And.intro rfl hP)
