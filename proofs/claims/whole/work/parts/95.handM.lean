/-! rounds by hand, the model -/
/-- the model's handwork -/
def MHw (h : AH) (o : Nat) (fs : List Value) (D : DD) (s : HWk) : Prop := ∃ gs ga gd : Nat → Int32, h (o + 1 + 32) = some (.inl (3, 40, .inl gs)) ∧ h (o + 1 + 33) = some (.inl (0, 6, .inl ga)) ∧ h (o + 1 + 34) = some (.inl (0, 6, .inl gd)) ∧ fs[50]? = some (.int (nI (hOn s))) ∧ fs[51]? = some (.int (nI (hUp s))) ∧ fs[55]? = some (.int (nI (hCl s).toNat)) ∧ (∀ k, k < 40 → gs k = nI (hSt s k).toNat) ∧ (∀ r, r < 6 → ga r = nI (hAg s r)) ∧ ∀ r, r < dR D → gd r = nI (hWt s r)
theorem MHw.ag {h h' : AH} {o : Nat} {fs fs' : List Value} {D : DD} {s : HWk} (hM : MHw h o fs D s) (e50 : fs'[50]? = fs[50]?) (e51 : fs'[51]? = fs[51]?) (e55 : fs'[55]? = fs[55]?) (hs : ∀ j, 32 ≤ j → j < 35 → h' (o + 1 + j) = h (o + 1 + j)) : MHw h' o fs' D s := by
  obtain ⟨gs, ga, gd, a, b, c, d, e, f, p⟩ := hM
  exact ⟨gs, ga, gd, (hs 32 (by decide) (by decide)).trans a, (hs 33 (by decide) (by decide)).trans b, (hs 34 (by decide) (by decide)).trans c, e50.trans d, e51.trans e, e55.trans f, p⟩
theorem MHw.hut {h h1 : AH} {o : Nat} {fs fs1 : List Value} {D : DD} {s : HWk} (a : MH h o fs h1 fs1) (hM : MHw h o fs D s) : MHw h1 o fs1 D s := hM.ag (a.2.2.1 50 rfl) (a.2.2.1 51 rfl) (a.2.2.1 55 rfl) (fun j h1 h2 => a.2.2.2 _ (by omega))
theorem MH.row1 {h h1 : AH} {o j : Nat} {fs fs1 : List Value} {e : AE} (a : MH h o fs h1 fs1) (hj : 35 ≤ j ∧ j < 49) (hr : rowS (some e) (tyL.getD j (0, 0))) : MH h o fs (uph h1 (o + 1 + j) e) fs1 := by
  obtain ⟨a1, b, c, d⟩ := a
  refine ⟨a1.keep (uph_ne (by omega)), b.upd (fun i hi => ?_), c, fun x hx => (uph_ne (by omega)).trans (d x hx)⟩
  by_cases e2 : i = j
  · right
    rw [e2, uph_eq]
    exact hr
  · left
    exact uph_ne (by omega)
theorem MH.so {h h1 : AH} {o : Nat} {fs fs1 : List Value} (a : MH h o fs h1 fs1) : MH h o fs (uph h1 o (.inr (12, soF fs1))) (soF fs1) := by
  obtain ⟨⟨a1, a2, a3⟩, b, c, d⟩ := a
  refine ⟨⟨uph_eq, by unfold soF; rw [List.length_set, List.length_set]; exact a2, fun j hj => ?_⟩, b.obj, fun k hk => ?_, fun x hx => (uph_ne (by omega)).trans (d x hx)⟩
  · have := rfM_no j hj
    unfold soF
    rw [get_set_ne (by omega), get_set_ne (by omega)]
    exact a3 j hj
  · unfold soF
    rw [get_set_ne (fun z => by rw [← z] at hk; cases hk), get_set_ne (fun z => by rw [← z] at hk; cases hk)]
    exact c k hk
theorem MH.sd {h h1 h2 : AH} {o : Nat} {fs fs1 : List Value} (a : MH h o fs h1 fs1) (hs : SD o h1 h2) (hx : SX h2 o) : MH h o fs h2 fs1 := by
  obtain ⟨a1, b, c, d⟩ := a
  refine ⟨a1.keep (hs _ (by omega) (by omega) (by omega)), b.upd (fun i hi => ?_), c, fun x hx => (hs x (by omega) (by omega) (by omega)).trans (d x hx)⟩
  by_cases e1 : i = 35
  · right; rw [e1]; exact rowS_i (by decide) rfl hx.1
  · by_cases e2 : i = 36
    · right; rw [e2]; exact rowS_i (by decide) rfl hx.2.1
    · by_cases e3 : i = 40
      · right; rw [e3]; exact rowS_i (by decide) rfl hx.2.2
      · left
        exact hs _ (by omega) (by omega) (by omega)
theorem MH.pl {h h1 h2 : AH} {o : Nat} {fs fs1 : List Value} (a : MH h o fs h1 fs1) (hp : PL o h1 h2) : MH h o fs h2 fs1 := by
  obtain ⟨a1, b, c, d⟩ := a
  refine ⟨a1.keep (hp.1 _ (by omega)), b.upd (fun i hi => ?_), c, fun x hx => (hp.1 x (by omega)).trans (d x hx)⟩
  by_cases e1 : i = 36
  · right; rw [e1]; exact rowS_i (by decide) rfl hp.2
  · left
    exact hp.1 _ (by omega)
set_option maxHeartbeats 8000000 in
theorem m_handShut {l : Launch} {G : GG} {h : AH} {nx : Nat} {Post : Option Value → AH → Nat → Prop} {o d : Nat} {D : DD} {s : HWk} {fs : List Value} (hX : XC G ∧ TX l G) (hM : MA h o fs) (hS : SHm h o) (f19 : fs[19]? = some (.int (nI d))) (hD : MPg h o d D) (hw : WD D) (hH : MHw h o fs D s) (hs : WHs D s) (hP : ∀ (h1 : AH) (fs1 : List Value), MH h o fs h1 fs1 → Post (some (.int (nI (hSh D s)))) h1 nx) : Runs l G i_X12_handShut 0 0 [.ref o] h nx Post := by
  have hi := hw.i
  have hr := hw.r
  have hpi := hw.pi
  have hpr := hw.pr
  have hon := hs.1
  have hup := hs.2.1
  have hk := hw.k
  obtain ⟨g37, e37⟩ := hS.i 37 (by decide) (by decide) (t := 3) (n := 40) rfl
  obtain ⟨g38, e38⟩ := hS.i 38 (by decide) (by decide) (t := 3) (n := 40) rfl
  obtain ⟨g39, e39⟩ := hS.i 39 (by decide) (by decide) (t := 3) (n := 40) rfl
  refine en_X12_handShut hX [6] 30 rfl ?_
  refine Exists.intro _ (And.intro hM.1 (Exists.intro 0 (Exists.intro 0 (And.intro (Nat.le_refl _) (And.intro (Nat.le_refl _) (c_sound hX hM e37 e38 e39 (fun s1 s2 s3 hz => ?_)))))))
  have R0 := ((((MH.rf hM hS).row1 (j := 37) (e := .inl (3, 40, .inl s1)) (by decide) (rowS_i (by decide) rfl ⟨s1, rfl⟩)).row1 (j := 38) (e := .inl (3, 40, .inl s2)) (by decide) (rowS_i (by decide) rfl ⟨s2, rfl⟩)).row1 (j := 39) (e := .inl (3, 40, .inl s3)) (by decide) (rowS_i (by decide) rfl ⟨s3, rfl⟩)).so
  generalize hh1 : uph (uph (uph (uph h (o + 1 + 37) (.inl (3, 40, .inl s1))) (o + 1 + 38) (.inl (3, 40, .inl s2))) (o + 1 + 39) (.inl (3, 40, .inl s3))) o (.inr (12, soF fs)) = h1 at R0
  have k37 : h1 (o + 1 + 37) = some (.inl (3, 40, .inl s1)) := by rw [← hh1, uph_ne (by omega), uph_ne (by omega), uph_ne (by omega)]; exact uph_eq
  have k38 : h1 (o + 1 + 38) = some (.inl (3, 40, .inl s2)) := by rw [← hh1, uph_ne (by omega), uph_ne (by omega)]; exact uph_eq
  have k39 : h1 (o + 1 + 39) = some (.inl (3, 40, .inl s3)) := by rw [← hh1, uph_ne (by omega)]; exact uph_eq
  have hHw := hH.hut R0
  obtain ⟨gs, ga, gd, a32, a33, a34, f50, f51, f55, p1, p2, p3⟩ := hHw
  have hM1 := R0.1
  have f19b := R0.f rfl f19
  have loop : ∀ (m i : Nat) (g : Nat → Int32), i + m = 40 → (∀ k, k < i → g k = nI (hSt s k).toNat) → Go l G 12 s_X12_handShut 0 0 Post 6 [(1, .int (nI i)), (0, .ref o)] [] (uph h1 (o + 1 + 37) (.inl (3, 40, .inl g))) nx 0 0 := by
    intro m
    induction m with
    | zero =>
      intro i g hi2 hg
      have e : i = 40 := by omega
      subst e
      have R1 := R0.row1 (j := 37) (e := .inl (3, 40, .inl g)) (by decide) (rowS_i (by decide) rfl ⟨g, rfl⟩)
      refine Go.of hX.2 ck_X12_handShut [] 40 ?_
      refine And.intro (fun _ => ?_) (fun cz => by first | exact absurd cz (by decide) | exact absurd (by decide) cz)
      refine Exists.intro _ (And.intro R1.1.1 (Exists.intro _ (And.intro (R1.f rfl f19) ?_)))
      refine Exists.intro _ (And.intro R1.1.1 (Exists.intro _ (And.intro (R1.f rfl f19) ?_)))
      refine Exists.intro _ (And.intro R1.1.1 (Exists.intro _ (And.intro f50 ?_)))
      refine Exists.intro _ (And.intro R1.1.1 (Exists.intro _ (And.intro f51 ?_)))
      have D1 := R1.pg hD
      have W1 : WB (uph h1 (o + 1 + 37) (.inl (3, 40, .inl g))) o (hSt s) (fun _ => false) (fun _ => false) := ⟨g, s2, s3, uph_eq, (uph_ne (by omega)).trans k38, (uph_ne (by omega)).trans k39, hg, fun k hk => (hz k hk).2.1, fun k hk => (hz k hk).2.2⟩
      refine Exists.intro _ (And.intro R1.1.1 (Exists.intro 0 (Exists.intro 0 (And.intro (Nat.le_refl _) (And.intro (Nat.le_refl _) (c_shutBits (set := 0) (on := hOn s) (up := hUp s) hX R1.1 R1.2.1.sx D1.1 D1.1 W1 (by omega) (by omega) (by decide) (fun k _ hk => by rw [Nat.zero_testBit] at hk; cases hk) (fun k hk => by cases hk) (fun h2 y1 y2 => ?_)))))))
      have hP2 := hP h2 _ (R1.sd y1 y2)
      refine And.intro rfl ?_
      have ev : bsum (shF 0 (dR D) (dL D) (fun k => dCT D k (clB (hSt s) (fun _ => false) (fun _ => false) (fun k => thv (dtr D) (hOn s) (hUp s) (dof D k) ^^ dnt D k))) (fun k => dCT D k (clB (hSt s) (fun _ => false) (fun _ => false) (fun k => thv (dtr D) (hOn s) (hUp s) (dof D k) ^^ dnt D k)))) 11 = hSh D s := by
        unfold hSh
        refine bsum_congr (fun c _ => ?_)
        unfold shF
        rw [Nat.zero_testBit, if_neg (by decide)]
        congr 1
        refine hw.d c _ _ (fun k hk2 _ => ?_)
        unfold clB bsB tgW
        rw [decide_eq_true hk2]
        cases hSt s k <;> simp
      rw [ev]
      exact hP2
    | succ m ih =>
      intro i g hi2 hg
      have R1 := R0.row1 (j := 37) (e := .inl (3, 40, .inl g)) (by decide) (rowS_i (by decide) rfl ⟨g, rfl⟩)
      have a32b : uph h1 (o + 1 + 37) (.inl (3, 40, .inl g)) (o + 1 + 32) = some (.inl (3, 40, .inl gs)) := (uph_ne (by omega)).trans a32
      refine Go.of hX.2 ck_X12_handShut [6] 40 ?_
      refine And.intro (fun cz => absurd cz (nI_ge (a := i) (b := 40) (by omega) (by decide))) (fun _ => ?_)
      refine Exists.intro _ (And.intro R1.1.1 (Exists.intro _ (And.intro (R1.1.2.2 37 (by decide)) ?_)))
      refine Exists.intro _ (And.intro R1.1.1 (Exists.intro _ (And.intro (R1.1.2.2 32 (by decide)) ?_)))
      refine Exists.intro 3 (Exists.intro _ (Exists.intro _ (And.intro a32b (And.intro (Or.inr rfl) (And.intro (vp_in_nI (by omega) (by decide)) ?_)))))
      rw [nI_clamp (show i < 2 ^ 31 by omega), p1 i (by omega)]
      refine Exists.intro 3 (Exists.intro _ (Exists.intro _ (And.intro uph_eq (And.intro (Or.inr rfl) (And.intro (vp_in_nI (by omega) (by decide)) ?_)))))
      rw [uph_uph, nI_clamp (show i < 2 ^ 31 by omega), nar_b]
      refine go_loc (lv' := [(1, .int (nI i + 1)), (0, .ref o)]) ⟨rfl, rfl, trivial⟩ ?_
      rw [← nI_succ]
      refine ih (i + 1) _ (by omega) (fun k hk2 => ?_)
      by_cases e : k = i
      · rw [e]; exact pk_us
      · rw [pk_un e]; exact hg k (by omega)
  rw [← uph_self k37]
  exact go_loc (lv' := [(1, .int (nI 0)), (0, .ref o)]) ⟨rfl, rfl, trivial⟩ (loop 40 0 s1 (Nat.zero_add _) (fun k hk2 => absurd hk2 (Nat.not_lt_zero k)))
def fHd (k : Nat) : Bool := fHut k || decide (k = 50 ∨ k = 51 ∨ k = 55)
/-- what work by hand leaves -/
def MHd (h : AH) (o : Nat) (fs : List Value) (h1 : AH) (fs1 : List Value) : Prop := MA h1 o fs1 ∧ SHm h1 o ∧ (∀ k, fHd k = false → fs1[k]? = fs[k]?) ∧ (∀ a, (a < o ∨ (o < a ∧ a < o + 1 + 32) ∨ o + 1 + 49 ≤ a) → h1 a = h a)
theorem MHd.rf {h : AH} {o : Nat} {fs : List Value} (hM : MA h o fs) (hS : SHm h o) : MHd h o fs h fs := ⟨hM, hS, fun _ _ => rfl, fun _ _ => rfl⟩
theorem MH.hd {h h1 : AH} {o : Nat} {fs fs1 : List Value} (a : MH h o fs h1 fs1) : MHd h o fs h1 fs1 := ⟨a.1, a.2.1, fun k hk => a.2.2.1 k (by unfold fHd at hk; exact (Bool.or_eq_false_iff.mp hk).1), fun x hx => a.2.2.2 x (by omega)⟩
theorem rfM_noh : ∀ j, j < 63 → rfM j ≠ 50 ∧ rfM j ≠ 51 ∧ rfM j ≠ 55 := by decide +kernel
theorem MHd.set {h h1 : AH} {o k : Nat} {fs fs1 : List Value} {v : Value} (a : MHd h o fs h1 fs1) (hk : k = 50 ∨ k = 51 ∨ k = 55) : MHd h o fs (uph h1 o (.inr (12, fs1.set k v))) (fs1.set k v) := by
  obtain ⟨⟨a1, a2, a3⟩, b, c, d⟩ := a
  refine ⟨⟨uph_eq, by rw [List.length_set]; exact a2, fun j hj => ?_⟩, b.obj, fun i hi => ?_, fun x hx => (uph_ne (by omega)).trans (d x hx)⟩
  · have := rfM_noh j hj
    rw [get_set_ne (by omega)]
    exact a3 j hj
  · rw [get_set_ne (fun z => by rw [← z] at hi; rcases hk with rfl | rfl | rfl <;> cases hi)]
    exact c i hi
theorem MHd.row {h h1 : AH} {o j : Nat} {fs fs1 : List Value} {e : AE} (a : MHd h o fs h1 fs1) (hj : 32 ≤ j ∧ j < 49) (hr : rowS (some e) (tyL.getD j (0, 0))) : MHd h o fs (uph h1 (o + 1 + j) e) fs1 := by
  obtain ⟨a1, b, c, d⟩ := a
  refine ⟨a1.keep (uph_ne (by omega)), b.upd (fun i hi => ?_), c, fun x hx => (uph_ne (by omega)).trans (d x hx)⟩
  by_cases e2 : i = j
  · right
    rw [e2, uph_eq]
    exact hr
  · left
    exact uph_ne (by omega)
theorem MHd.tr {h h1 h2 : AH} {o : Nat} {fs fs1 fs2 : List Value} (a : MHd h o fs h1 fs1) (b : MHd h1 o fs1 h2 fs2) : MHd h o fs h2 fs2 := ⟨b.1, b.2.1, fun k hk => (b.2.2.1 k hk).trans (a.2.2.1 k hk), fun x hx => (b.2.2.2 x hx).trans (a.2.2.2 x hx)⟩
theorem MHd.f {h h1 : AH} {o : Nat} {fs fs1 : List Value} (a : MHd h o fs h1 fs1) {k : Nat} {v : Value} (hk : fHd k = false) (e : fs[k]? = some v) : fs1[k]? = some v := (a.2.2.1 k hk).trans e
theorem MHd.pg {h h1 : AH} {o d : Nat} {fs fs1 : List Value} {D : DD} (a : MHd h o fs h1 fs1) (hD : MPg h o d D) : MPg h1 o d D := hD.ag (fun j hj => a.2.2.2 _ (by omega))
theorem inR_in {x : Int32} {n : Nat} (hn : n < 2 ^ 31) : (0 ≤ x ∧ x ≤ nI n - 1) ↔ inR x n = true := by
  rw [in_n hn]
  unfold inR
  rw [Bool.and_eq_true, decide_eq_true_eq, decide_eq_true_eq]
set_option maxHeartbeats 8000000 in
theorem m_set {l : Launch} {G : GG} {h : AH} {nx : Nat} {Post : Option Value → AH → Nat → Prop} {o d : Nat} {i : Int32} {b : Bool} {D : DD} {s : HWk} {fs : List Value} (hX : XC G ∧ TX l G) (hM : MA h o fs) (hS : SHm h o) (f19 : fs[19]? = some (.int (nI d))) (hD : MPg h o d D) (hw : WD D) (hH : MHw h o fs D s) (hP : ∀ (h1 : AH) (fs1 : List Value), MHd h o fs h1 fs1 → MHw h1 o fs1 D (hSet D s i b) → Post (some (.int (nI (inR i (dI D)).toNat))) h1 nx) : Runs l G i_X12_set 0 0 [.ref o, .int i, .int (nI b.toNat)] h nx Post := by
  have hd := hD.2.2.2.2.2.2.2
  obtain ⟨_, _, _, ⟨gI, eI, pI⟩, _⟩ := id hD
  have hi := hw.i
  have hlen := hM.2.1
  obtain ⟨gs, ga, gd, a32, a33, a34, f50, f51, f55, p1, p2, p3⟩ := id hH
  refine en_X12_set hX [] 60 rfl ?_
  refine Exists.intro _ (And.intro hM.1 (Exists.intro _ (And.intro f19 ?_)))
  refine And.intro (fun cz => absurd cz ((nI_n2 (show d < 64 by omega)).2.2)) (fun _ => ?_)
  refine Exists.intro _ (And.intro hM.1 (Exists.intro _ (And.intro (hM.2.2 7 (by decide)) ?_)))
  refine Exists.intro _ (And.intro hM.1 (Exists.intro _ (And.intro f19 ?_)))
  refine Exists.intro _ (Exists.intro _ (And.intro eI (And.intro (vp_in_nI hd (by decide)) ?_)))
  rw [nI_clamp (show d < 2 ^ 31 by omega), pI]
  refine Exists.intro 0 (Exists.intro 0 (And.intro (Nat.le_refl _) (And.intro (Nat.le_refl _) (c_in hX ?_))))
  cases c2 : inR i (dI D) with
  | false =>
    rw [if_neg (fun z => by rw [(inR_in (by omega)).mp z] at c2; cases c2)]
    refine And.intro (fun cz => by first | exact absurd cz (by decide) | exact absurd (by decide) cz) (fun _ => ?_)
    have hP := hP h fs (MHd.rf hM hS) (by unfold hSet; rw [if_neg (by rw [c2]; decide)]; exact hH)
    rw [c2] at hP
    exact And.intro rfl (hP)
  | true =>
    rw [if_pos ((inR_in (by omega)).mpr c2)]
    refine And.intro (fun _ => ?_) (fun cz => by first | exact absurd cz (by decide) | exact absurd (by decide) cz)
    obtain ⟨j, hj, rfl⟩ := (inR_c (by omega)).mp c2
    have fin : ∀ v : Int32, v = nI (hBit (hOn s) j b) → Post (some (.int 1)) (uph h o (.inr (12, fs.set 50 (.int v)))) nx := by
      intro v hv
      have R := (MHd.rf hM hS).set (k := 50) (v := .int v) (Or.inl rfl)
      have hP := hP _ _ R (by
        unfold hSet
        rw [if_pos c2, nI_clamp (by omega)]
        refine ⟨gs, ga, gd, (uph_ne (by omega)).trans a32, (uph_ne (by omega)).trans a33, (uph_ne (by omega)).trans a34, ?_, (get_set_ne (by decide)).trans f51, (get_set_ne (by decide)).trans f55, p1, p2, p3⟩
        rw [List.getElem?_set_self (by omega), hv]
        rfl)
      rw [c2] at hP
      exact hP
    cases b with
    | true =>
      refine And.intro (fun cz => by first | exact absurd cz (by decide) | exact absurd (by decide) cz) (fun _ => ?_)
      refine Exists.intro _ (And.intro hM.1 (Exists.intro _ (And.intro f50 ?_)))
      refine Exists.intro _ (And.intro hM.1 (And.intro (by omega) (And.intro rfl (And.intro rfl ?_))))
      refine And.intro rfl (fin (nI (hOn s) ||| ((1 : Int32) <<< (nI j &&& 31))) ?_)
      rw [nx_pow (by omega), nx_or]
      rfl
    | false =>
      refine And.intro (fun _ => ?_) (fun cz => by first | exact absurd cz (by decide) | exact absurd (by decide) cz)
      refine Exists.intro _ (And.intro hM.1 (Exists.intro _ (And.intro f50 ?_)))
      refine Exists.intro _ (And.intro hM.1 (And.intro (by omega) (And.intro rfl (And.intro rfl ?_))))
      refine And.intro rfl (fin (nI (hOn s) &&& (((1 : Int32) <<< (nI j &&& 31)) ^^^ (-1))) ?_)
      rw [nx_pow (by omega), nx_andn]
      rfl
set_option maxHeartbeats 8000000 in
theorem m_strap {l : Launch} {G : GG} {h : AH} {nx : Nat} {Post : Option Value → AH → Nat → Prop} {o d : Nat} {i : Int32} {b : Bool} {D : DD} {s : HWk} {fs : List Value} (hX : XC G ∧ TX l G) (hM : MA h o fs) (hS : SHm h o) (f19 : fs[19]? = some (.int (nI d))) (hD : MPg h o d D) (hw : WD D) (hH : MHw h o fs D s) (hP : ∀ (h1 : AH) (fs1 : List Value), MHd h o fs h1 fs1 → MHw h1 o fs1 D (hStrap D s i b) → Post (some (.int (nI (inR i (dK D)).toNat))) h1 nx) : Runs l G i_X12_strap 0 0 [.ref o, .int i, .int (nI b.toNat)] h nx Post := by
  have hd := hD.2.2.2.2.2.2.2
  obtain ⟨⟨trk, gm, go, gn, gR, gL, gf, gt, gk, d8, d18, d20, d21, d10, d13, d23, d24, d27, hd5, pm, _⟩, _⟩ := id hD
  have hk := hw.k
  obtain ⟨gs, ga, gd, a32, a33, a34, f50, f51, f55, p1, p2, p3⟩ := id hH
  refine en_X12_strap hX [] 60 rfl ?_
  refine Exists.intro _ (And.intro hM.1 (Exists.intro _ (And.intro f19 ?_)))
  refine And.intro (fun cz => absurd cz ((nI_n2 (show d < 64 by omega)).2.2)) (fun _ => ?_)
  refine Exists.intro _ (And.intro hM.1 (Exists.intro _ (And.intro (hM.2.2 18 (by decide)) ?_)))
  refine Exists.intro _ (And.intro hM.1 (Exists.intro _ (And.intro f19 ?_)))
  refine Exists.intro _ (Exists.intro _ (And.intro d18 (And.intro (vp_in_nI hd (by decide)) ?_)))
  rw [nI_clamp (show d < 2 ^ 31 by omega), pm]
  refine Exists.intro 0 (Exists.intro 0 (And.intro (Nat.le_refl _) (And.intro (Nat.le_refl _) (c_in hX ?_))))
  cases c2 : inR i (dK D) with
  | false =>
    rw [if_neg (fun z => by rw [(inR_in (by omega)).mp z] at c2; cases c2)]
    refine And.intro (fun cz => by first | exact absurd cz (by decide) | exact absurd (by decide) cz) (fun _ => ?_)
    have hP := hP h fs (MHd.rf hM hS) (by unfold hStrap; rw [if_neg (by rw [c2]; decide)]; exact hH)
    rw [c2] at hP
    exact And.intro rfl (hP)
  | true =>
    rw [if_pos ((inR_in (by omega)).mpr c2)]
    refine And.intro (fun _ => ?_) (fun cz => by first | exact absurd cz (by decide) | exact absurd (by decide) cz)
    obtain ⟨j, hj, rfl⟩ := (inR_c (by omega)).mp c2
    refine Exists.intro _ (And.intro hM.1 (Exists.intro _ (And.intro (hM.2.2 32 (by decide)) ?_)))
    refine Exists.intro 3 (Exists.intro _ (Exists.intro _ (And.intro a32 (And.intro (Or.inr rfl) (And.intro (vp_in_nI (by omega) (by decide)) ?_)))))
    rw [nI_clamp (show j < 2 ^ 31 by omega), nar_b]
    have R := (MHd.rf hM hS).row (j := 32) (e := .inl (3, 40, .inl (upd gs j (nI b.toNat)))) (by decide) (rowS_i (by decide) rfl ⟨_, rfl⟩)
    have hP := hP _ _ R (by
      unfold hStrap
      rw [if_pos c2, nI_clamp (by omega)]
      refine ⟨_, ga, gd, uph_eq, (uph_ne (by omega)).trans a33, (uph_ne (by omega)).trans a34, f50, f51, f55, fun k hk2 => ?_, p2, p3⟩
      show upd gs j (nI b.toNat) k = nI (if k = j then b else hSt s k).toNat
      by_cases e : k = j
      · rw [e, pk_us, if_pos rfl]
      · rw [pk_un e, if_neg e]; exact p1 k hk2)
    rw [c2] at hP
    exact And.intro rfl (hP)
set_option maxHeartbeats 8000000 in
theorem m_age {l : Launch} {G : GG} {h : AH} {nx : Nat} {Post : Option Value → AH → Nat → Prop} {o d : Nat} {i v : Int32} {D : DD} {s : HWk} {fs : List Value} (hX : XC G ∧ TX l G) (hM : MA h o fs) (hS : SHm h o) (f19 : fs[19]? = some (.int (nI d))) (hD : MPg h o d D) (hw : WD D) (hH : MHw h o fs D s) (hP : ∀ (h1 : AH) (fs1 : List Value), MHd h o fs h1 fs1 → MHw h1 o fs1 D (hAge D s i v) → Post (some (.int (nI (ageB D i v).toNat))) h1 nx) : Runs l G i_X12_age 0 0 [.ref o, .int i, .int v] h nx Post := by
  have hd := hD.2.2.2.2.2.2.2
  obtain ⟨⟨trk, gm, go, gn, gR, gL, gf, gt, gk, d8, d18, d20, d21, d10, d13, d23, d24, d27, hd5, pm, pK, pR, _⟩, _⟩ := id hD
  have hr := hw.r
  obtain ⟨gs, ga, gd, a32, a33, a34, f50, f51, f55, p1, p2, p3⟩ := id hH
  have no : ageB D i v = false → Post (some (.int 0)) h nx := fun z => by
    have hP := hP h fs (MHd.rf hM hS) (by unfold hAge; rw [if_neg (by rw [z]; decide)]; exact hH)
    rw [z] at hP
    exact hP
  refine en_X12_age hX [] 60 rfl ?_
  refine Exists.intro _ (And.intro hM.1 (Exists.intro _ (And.intro f19 ?_)))
  refine And.intro (fun cz => absurd cz ((nI_n2 (show d < 64 by omega)).2.2)) (fun _ => ?_)
  refine Exists.intro _ (And.intro hM.1 (Exists.intro _ (And.intro (hM.2.2 10 (by decide)) ?_)))
  refine Exists.intro _ (And.intro hM.1 (Exists.intro _ (And.intro f19 ?_)))
  refine Exists.intro _ (Exists.intro _ (And.intro d10 (And.intro (vp_in_nI hd (by decide)) ?_)))
  rw [nI_clamp (show d < 2 ^ 31 by omega), pR]
  refine Exists.intro 0 (Exists.intro 0 (And.intro (Nat.le_refl _) (And.intro (Nat.le_refl _) (c_in hX ?_))))
  cases c2 : inR i (dR D) with
  | false =>
    rw [if_neg (fun z => by rw [(inR_in (by omega)).mp z] at c2; cases c2)]
    refine And.intro (fun _ => ?_) (fun cz => by first | exact absurd cz (by decide) | exact absurd (by decide) cz)
    exact And.intro rfl ((no (by unfold ageB; rw [c2]; rfl)))
  | true =>
    rw [if_pos ((inR_in (by omega)).mpr c2)]
    refine And.intro (fun cz => by first | exact absurd cz (by decide) | exact absurd (by decide) cz) (fun _ => ?_)
    refine Exists.intro 0 (Exists.intro 0 (And.intro (Nat.le_refl _) (And.intro (Nat.le_refl _) (c_in hX ?_))))
    have e9 : (0 ≤ v ∧ v ≤ 9) ↔ inR v 10 = true := inR_in (n := 10) (by decide)
    cases c3 : inR v 10 with
    | false =>
      rw [if_neg (fun z => by rw [e9.mp z] at c3; cases c3)]
      refine And.intro (fun cz => by first | exact absurd cz (by decide) | exact absurd (by decide) cz) (fun _ => ?_)
      exact And.intro rfl ((no (by unfold ageB; rw [c2, c3]; rfl)))
    | true =>
      rw [if_pos (e9.mpr c3)]
      refine And.intro (fun _ => ?_) (fun cz => by first | exact absurd cz (by decide) | exact absurd (by decide) cz)
      have cb : ageB D i v = true := by unfold ageB; rw [c2, c3]; rfl
      obtain ⟨j, hj, rfl⟩ := (inR_c (by omega)).mp c2
      obtain ⟨y, hy, rfl⟩ := (inR_c (by decide)).mp c3
      refine Exists.intro _ (And.intro hM.1 (Exists.intro _ (And.intro (hM.2.2 33 (by decide)) ?_)))
      refine Exists.intro _ (Exists.intro _ (And.intro a33 (And.intro (vp_in_nI (show j < 6 by omega) (by decide)) ?_)))
      rw [nI_clamp (show j < 2 ^ 31 by omega)]
      have R := (MHd.rf hM hS).row (j := 33) (e := .inl (0, 6, .inl (upd ga j (nI y)))) (by decide) (rowS_i (by decide) rfl ⟨_, rfl⟩)
      have hP := hP _ _ R (by
        unfold hAge
        rw [if_pos cb, nI_clamp (by omega), nI_clamp (by omega)]
        refine ⟨gs, _, gd, (uph_ne (by omega)).trans a32, uph_eq, (uph_ne (by omega)).trans a34, f50, f51, f55, p1, fun r hr2 => ?_, p3⟩
        show upd ga j (nI y) r = nI (if r = j then y else hAg s r)
        by_cases e : r = j
        · rw [e, pk_us, if_pos rfl]
        · rw [pk_un e, if_neg e]; exact p2 r hr2)
      rw [cb] at hP
      exact And.intro rfl (hP)
set_option maxHeartbeats 8000000 in
theorem m_clash {l : Launch} {G : GG} {h : AH} {nx : Nat} {Post : Option Value → AH → Nat → Prop} {o : Nat} {D : DD} {s : HWk} {fs : List Value} (hX : XC G ∧ TX l G) (hM : MA h o fs) (hH : MHw h o fs D s) (hP : Post (some (.int (nI (hCl s).toNat))) h nx) : Runs l G i_X12_clash 0 0 [.ref o] h nx Post := by
  obtain ⟨gs, ga, gd, a32, a33, a34, f50, f51, f55, p1, p2, p3⟩ := id hH
  refine en_X12_clash hX [] 30 rfl ?_
  refine Exists.intro _ (And.intro hM.1 (Exists.intro _ (And.intro f55 ?_)))
  cases cl : hCl s with
  | false =>
    rw [cl] at hP
    refine And.intro (fun _ => ?_) (fun cz => by first | exact absurd cz (by decide) | exact absurd (by decide) cz)
    exact And.intro rfl (hP)
  | true =>
    rw [cl] at hP
    refine And.intro (fun cz => by first | exact absurd cz (by decide) | exact absurd (by decide) cz) (fun _ => ?_)
    exact And.intro rfl (hP)
