/-! contact, count and flaw, on both sides -/
def dCnt (D : DD) (w : Int32) : Int32 := if w = 2 then nI (dI D) else if w = 3 then nI (dR D) else if w = 4 then nI (dL D) else if w = 5 then nI (dK D) else if w = 6 then nI (dV D) else if w = 7 then nI (flL D).length else -1
def aCount (D : DD) (c t lg tl : Nat) (w : Int32) : Int32 := if w = 0 then nI c else if w = 1 then nI t else if w = 8 then nI lg else if w = 9 then nI tl else dCnt D w
def aContact (D : DD) (k w : Int32) : Int32 := if inR k (dK D) = true then (if w = 0 then nI (if dow D k.toNatClampNeg < 6 then dow D k.toNatClampNeg else dow D k.toNatClampNeg + 4) else if w = 1 then nI (dof D k.toNatClampNeg) else if w = 2 then nI (dnt D k.toNatClampNeg).toNat else -1) else -1
set_option maxHeartbeats 8000000 in
theorem x_flaw {l : Launch} {G : GG} {h : AH} {nx : Nat} {Post : Option Value → AH → Nat → Prop} {o w tl c t : Nat} {fp i : Int32} {da : Nat → Nat} {dd : Nat → DD} (hX : XC G ∧ TX l G) (hA : XA h o w tl fp c (nI t) da dd) (ht : t < c) (hP : Post (some (.int (aFlaw (dd t) i))) h nx) : Runs l G i_X11_flaw 0 0 [.ref o, .int i] h nx Post := by
  have hdt : isDr w c da dd (da t) (dd t) := Or.inr ⟨t, ht, rfl, rfl⟩
  obtain ⟨hD, hw, ha⟩ := hdt.xd hA
  obtain ⟨cc, g2, g3, g4, g5, g10, g13, g14, g16, g17, g18, g19, g27, g28, g1, g11, g12, d0, _⟩ := id hD
  refine en_X11_flaw hX [] 30 rfl ?_
  refine Exists.intro _ (And.intro hA.1 (Exists.intro 0 (Exists.intro 0 (And.intro (Nat.le_refl _) (And.intro (Nat.le_refl _) (x_current hX hA ht ?_))))))
  refine Exists.intro _ (And.intro d0 (Exists.intro 0 (Exists.intro 0 (And.intro (Nat.le_refl _) (And.intro (Nat.le_refl _) (x_flawAt hX hD hw ?_))))))
  exact And.intro rfl (hP)
set_option maxHeartbeats 8000000 in
theorem x_countOf {l : Launch} {G : GG} {h : AH} {nx : Nat} {Post : Option Value → AH → Nat → Prop} {d : Nat} {v : Int32} {D : DD} (hX : XC G ∧ TX l G) (hD : XD h d D) (hP : Post (some (.int (dCnt D v))) h nx) : Runs l G i_X0_countOf 0 0 [.ref d, .int v] h nx Post := by
  obtain ⟨cc, g2, g3, g4, g5, g10, g13, g14, g16, g17, g18, g19, g27, g28, g1, g11, g12, d0, _⟩ := id hD
  refine en_X0_countOf hX [] 30 rfl ?_
  refine And.intro (fun hd => ?_) (And.intro (fun h0 => ?_) (And.intro (fun h0 => ?_) (And.intro (fun h0 => ?_) (And.intro (fun h0 => ?_) (And.intro (fun h0 => ?_) (And.intro (fun h0 => ?_) trivial))))))
  · have hP2 : Post (some (.int (-1))) h nx := by
      unfold dCnt at hP
      rw [if_neg (fun e => by rw [e] at hd; exact absurd hd (by decide)), if_neg (fun e => by rw [e] at hd; exact absurd hd (by decide)), if_neg (fun e => by rw [e] at hd; exact absurd hd (by decide)), if_neg (fun e => by rw [e] at hd; exact absurd hd (by decide)), if_neg (fun e => by rw [e] at hd; exact absurd hd (by decide)), if_neg (fun e => by rw [e] at hd; exact absurd hd (by decide))] at hP
      exact hP
    exact And.intro rfl (hP2)
  · have e : v = 2 := h0.trans (by decide)
    subst e
    refine Exists.intro _ (And.intro d0 (Exists.intro _ (And.intro rfl ?_)))
    exact And.intro rfl (show Post (some (.int (nI (dI D)))) h nx from hP)
  · have e : v = 3 := h0.trans (by decide)
    subst e
    refine Exists.intro _ (And.intro d0 (Exists.intro _ (And.intro rfl ?_)))
    exact And.intro rfl (show Post (some (.int (nI (dR D)))) h nx from hP)
  · have e : v = 4 := h0.trans (by decide)
    subst e
    refine Exists.intro _ (And.intro d0 (Exists.intro _ (And.intro rfl ?_)))
    exact And.intro rfl (show Post (some (.int (nI (dL D)))) h nx from hP)
  · have e : v = 5 := h0.trans (by decide)
    subst e
    refine Exists.intro _ (And.intro d0 (Exists.intro _ (And.intro rfl ?_)))
    exact And.intro rfl (show Post (some (.int (nI (dK D)))) h nx from hP)
  · have e : v = 6 := h0.trans (by decide)
    subst e
    refine Exists.intro _ (And.intro d0 (Exists.intro _ (And.intro rfl ?_)))
    exact And.intro rfl (show Post (some (.int (nI (dV D)))) h nx from hP)
  · have e : v = 7 := h0.trans (by decide)
    subst e
    refine Exists.intro _ (And.intro d0 (Exists.intro _ (And.intro rfl ?_)))
    exact And.intro rfl (show Post (some (.int (nI (flL D).length))) h nx from hP)
set_option maxHeartbeats 8000000 in
theorem x_entryCount {l : Launch} {G : GG} {h : AH} {nx : Nat} {Post : Option Value → AH → Nat → Prop} {w : Nat} {L : List LE} (hX : XC G ∧ TX l G) (hL : XLg h w L) (hP : Post (some (.int (nI L.length))) h nx) : Runs l G i_X4_entryCount 0 0 [.ref (w + 64)] h nx Post := by
  obtain ⟨_, _, _, _, _, e0, _⟩ := id hL
  refine en_X4_entryCount hX [] 20 rfl ?_
  refine Exists.intro _ (And.intro e0 (Exists.intro _ (And.intro rfl ?_)))
  exact And.intro rfl (hP)
set_option maxHeartbeats 8000000 in
theorem x_count {l : Launch} {G : GG} {h : AH} {nx : Nat} {Post : Option Value → AH → Nat → Prop} {o w tl c t : Nat} {fp v : Int32} {da : Nat → Nat} {dd : Nat → DD} {L : List LE} (hX : XC G ∧ TX l G) (hA : XA h o w tl fp c (nI t) da dd) (ht : t < c) (hL : XLg h w L) (hP : Post (some (.int (aCount (dd t) c t L.length tl v))) h nx) : Runs l G i_X11_count 0 0 [.ref o, .int v] h nx Post := by
  have hdt : isDr w c da dd (da t) (dd t) := Or.inr ⟨t, ht, rfl, rfl⟩
  obtain ⟨hD, hw, ha⟩ := hdt.xd hA
  obtain ⟨cc, g2, g3, g4, g5, g10, g13, g14, g16, g17, g18, g19, g27, g28, g1, g11, g12, d0, _⟩ := id hD
  obtain ⟨_, _, _, _, _, l0, _⟩ := id hL
  have hc := hA.2.2.1
  have tail : v ≠ 0 → v ≠ 1 → v ≠ 8 → v ≠ 9 → Go l G 11 s_X11_count 0 0 Post 83 [(0, .ref o), (1, .int v), (2, .ref (da t))] [] h nx 0 0 := by
    intro n0 n1 n8 n9
    unfold aCount at hP
    rw [if_neg n0, if_neg n1, if_neg n8, if_neg n9] at hP
    refine Go.of hX.2 ck_X11_count [] 30 ?_
    refine Exists.intro _ (And.intro hA.1 (Exists.intro _ (And.intro rfl ?_)))
    refine And.intro (fun _ => ?_) (fun cz => absurd cz ((nI_n2 (show t < 64 by omega)).2.2))
    refine Exists.intro _ (And.intro d0 (Exists.intro 0 (Exists.intro 0 (And.intro (Nat.le_refl _) (And.intro (Nat.le_refl _) (x_countOf hX hD ?_))))))
    exact And.intro rfl (hP)
  have mid : ∀ k : Int32, v = k → (k ≠ 0 ∧ k ≠ 1 ∧ k ≠ 8 ∧ k ≠ 9) → Go l G 11 s_X11_count 0 0 Post 83 [(0, .ref o), (1, .int v), (2, .ref (da t))] [] h nx 0 0 := fun k hk n => tail (hk ▸ n.1) (hk ▸ n.2.1) (hk ▸ n.2.2.1) (hk ▸ n.2.2.2)
  refine en_X11_count hX [83] 30 rfl ?_
  refine Exists.intro _ (And.intro hA.1 (Exists.intro 0 (Exists.intro 0 (And.intro (Nat.le_refl _) (And.intro (Nat.le_refl _) (x_current hX hA ht ?_))))))
  refine And.intro (fun hd => ?_) (And.intro (fun h0 => ?_) (And.intro (fun h0 => ?_) (And.intro (fun h0 => ?_) (And.intro (fun h0 => ?_) (And.intro (fun h0 => ?_) (And.intro (fun h0 => ?_) (And.intro (fun h0 => ?_) (And.intro (fun h0 => ?_) (And.intro (fun h0 => ?_) (And.intro (fun h0 => ?_) trivial))))))))))
  · exact go_loc (lv' := [(0, .ref o), (1, .int v), (2, .ref (da t))]) ⟨rfl, rfl, rfl, trivial⟩ (tail (fun e => by rw [e] at hd; exact absurd hd (by decide)) (fun e => by rw [e] at hd; exact absurd hd (by decide)) (fun e => by rw [e] at hd; exact absurd hd (by decide)) (fun e => by rw [e] at hd; exact absurd hd (by decide)))
  · have e : v = 0 := h0.trans (by decide)
    subst e
    refine Exists.intro _ (And.intro hA.1 (Exists.intro _ (And.intro rfl ?_)))
    exact And.intro rfl (show Post (some (.int (nI c))) h nx from hP)
  · have e : v = 1 := h0.trans (by decide)
    subst e
    refine Exists.intro _ (And.intro hA.1 (Exists.intro _ (And.intro rfl ?_)))
    exact And.intro rfl (show Post (some (.int (nI t))) h nx from hP)
  · exact go_loc (lv' := [(0, .ref o), (1, .int v), (2, .ref (da t))]) ⟨rfl, rfl, rfl, trivial⟩ (mid 2 (h0.trans (by decide)) (by decide))
  · exact go_loc (lv' := [(0, .ref o), (1, .int v), (2, .ref (da t))]) ⟨rfl, rfl, rfl, trivial⟩ (mid 3 (h0.trans (by decide)) (by decide))
  · exact go_loc (lv' := [(0, .ref o), (1, .int v), (2, .ref (da t))]) ⟨rfl, rfl, rfl, trivial⟩ (mid 4 (h0.trans (by decide)) (by decide))
  · exact go_loc (lv' := [(0, .ref o), (1, .int v), (2, .ref (da t))]) ⟨rfl, rfl, rfl, trivial⟩ (mid 5 (h0.trans (by decide)) (by decide))
  · exact go_loc (lv' := [(0, .ref o), (1, .int v), (2, .ref (da t))]) ⟨rfl, rfl, rfl, trivial⟩ (mid 6 (h0.trans (by decide)) (by decide))
  · exact go_loc (lv' := [(0, .ref o), (1, .int v), (2, .ref (da t))]) ⟨rfl, rfl, rfl, trivial⟩ (mid 7 (h0.trans (by decide)) (by decide))
  · have e : v = 8 := h0.trans (by decide)
    subst e
    refine Exists.intro _ (And.intro hA.1 (Exists.intro _ (And.intro rfl ?_)))
    refine Exists.intro _ (And.intro l0 (Exists.intro 0 (Exists.intro 0 (And.intro (Nat.le_refl _) (And.intro (Nat.le_refl _) (x_entryCount hX hL ?_))))))
    exact And.intro rfl (show Post (some (.int (nI L.length))) h nx from hP)
  · have e : v = 9 := h0.trans (by decide)
    subst e
    refine Exists.intro _ (And.intro hA.1 (Exists.intro _ (And.intro rfl ?_)))
    exact And.intro rfl (show Post (some (.int (nI tl))) h nx from hP)
set_option maxHeartbeats 8000000 in
theorem x_contact {l : Launch} {G : GG} {h : AH} {nx : Nat} {Post : Option Value → AH → Nat → Prop} {o w tl c t : Nat} {fp k v : Int32} {da : Nat → Nat} {dd : Nat → DD} (hX : XC G ∧ TX l G) (hA : XA h o w tl fp c (nI t) da dd) (ht : t < c) (hP : Post (some (.int (aContact (dd t) k v))) h nx) : Runs l G i_X11_contact 0 0 [.ref o, .int k, .int v] h nx Post := by
  have hdt : isDr w c da dd (da t) (dd t) := Or.inr ⟨t, ht, rfl, rfl⟩
  obtain ⟨hD, hw, ha⟩ := hdt.xd hA
  obtain ⟨cc, g2, g3, g4, g5, g10, g13, g14, g16, g17, g18, g19, g27, g28, g1, g11, g12, d0, d6, d1, d2, d3, d4, d5, d10, d11, d12, d13, d14, d16, d17, d18, d19, d27, d28, q1, _⟩ := id hD
  have hk40 := hw.k
  have hr := hw.r
  have hi := hw.i
  have no : inR k (dK (dd t)) = false → Post (some (.int (-1))) h nx := fun z => by
    unfold aContact at hP
    rw [if_neg (by rw [z]; decide)] at hP
    exact hP
  refine en_X11_contact hX [] 60 rfl ?_
  refine Exists.intro _ (And.intro hA.1 (Exists.intro 0 (Exists.intro 0 (And.intro (Nat.le_refl _) (And.intro (Nat.le_refl _) (x_current hX hA ht ?_))))))
  by_cases c1 : k < 0
  · refine And.intro (fun _ => ?_) (fun cz => absurd (c1) cz)
    exact And.intro rfl ((no (by unfold inR; rw [decide_eq_false (Int32.not_le.mpr c1)]; rfl)))
  · refine And.intro (fun cz => absurd cz (c1)) (fun _ => ?_)
    refine Exists.intro _ (And.intro d0 (Exists.intro _ (And.intro rfl ?_)))
    cases c2 : inR k (dK (dd t)) with
    | false =>
      refine And.intro (fun _ => ?_) (fun cz => absurd (Int32.not_lt.mp (inR_f c2 c1)) cz)
      exact And.intro rfl ((no c2))
    | true =>
      unfold aContact at hP
      rw [if_pos c2] at hP
      obtain ⟨j, hj, rfl⟩ := (inR_c (by omega)).mp c2
      rw [nI_clamp (by omega)] at hP
      obtain ⟨r1, r2, r3⟩ := q1 j hj
      obtain ⟨w1, w2, w3⟩ := hw.c j hj
      refine And.intro (fun cz => absurd cz (nI_ge hj (by omega))) (fun _ => ?_)
      refine And.intro (fun _ => ?_) (fun cz => absurd (nI_lt (a := j) (b := 40) (by omega) (by decide)) cz)
      refine And.intro (fun hd => ?_) (And.intro (fun h0 => ?_) (And.intro (fun h0 => ?_) (And.intro (fun h0 => ?_) trivial)))
      · rw [if_neg (fun e => by rw [e] at hd; exact absurd hd (by decide)), if_neg (fun e => by rw [e] at hd; exact absurd hd (by decide)), if_neg (fun e => by rw [e] at hd; exact absurd hd (by decide))] at hP
        exact And.intro rfl (hP)
      · have e : v = 0 := h0.trans (by decide)
        subst e
        have hP2 : Post (some (.int (nI (if dow (dd t) j < 6 then dow (dd t) j else dow (dd t) j + 4)))) h nx := hP
        refine Exists.intro _ (And.intro d0 (Exists.intro _ (And.intro rfl ?_)))
        refine Exists.intro _ (Exists.intro _ (And.intro d18 (And.intro (vp_in_nI (by omega) (by decide)) ?_)))
        rw [nI_clamp (show j < 2 ^ 31 by omega), r1]
        by_cases c3 : dow (dd t) j < 6
        · rw [if_pos c3] at hP2
          refine And.intro (fun cz => absurd cz (nI_ge (a := dow (dd t) j) (b := 6) c3 (by decide))) (fun _ => ?_)
          exact And.intro rfl (hP2)
        · rw [if_neg c3] at hP2
          refine And.intro (fun _ => ?_) (fun cz => absurd (nI_le (a := 6) (b := dow (dd t) j) (by omega) (by omega)) cz)
          refine And.intro rfl ?_
          show Post (some (.int ((10 : Int32) + nI (dow (dd t) j) - 6))) h nx
          rw [show (10 : Int32) = nI 10 from rfl, show (6 : Int32) = nI 6 from rfl, nI_add, nI_sub (by omega), show 10 + dow (dd t) j - 6 = dow (dd t) j + 4 by omega]
          exact hP2
      · have e : v = 1 := h0.trans (by decide)
        subst e
        have hP2 : Post (some (.int (nI (dof (dd t) j)))) h nx := hP
        refine Exists.intro _ (And.intro d0 (Exists.intro _ (And.intro rfl ?_)))
        refine Exists.intro _ (And.intro d6 (Exists.intro _ (And.intro rfl ?_)))
        refine Exists.intro _ (Exists.intro _ (And.intro d13 (And.intro (vp_in_nI (by omega) (by decide)) ?_)))
        rw [nI_clamp (show j < 2 ^ 31 by omega), r2]
        by_cases c3 : dof (dd t) j < 5
        · rw [if_pos c3]
          refine And.intro (fun _ => ?_) (fun cz => absurd (nI_le (a := 6) (b := 6 + dof (dd t) j) (by omega) (by omega)) cz)
          refine And.intro rfl ?_
          show Post (some (.int (nI (6 + dof (dd t) j) - 6))) h nx
          rw [show (6 : Int32) = nI 6 from rfl, nI_sub (by omega), Nat.add_sub_cancel_left]
          exact hP2
        · rw [if_neg c3]
          refine And.intro (fun cz => absurd cz (nI_ge (a := dof (dd t) j - 10) (b := 6) (by omega) (by decide))) (fun _ => ?_)
          refine And.intro rfl ?_
          show Post (some (.int ((10 : Int32) + nI (dof (dd t) j - 10)))) h nx
          rw [show (10 : Int32) = nI 10 from rfl, nI_add, show 10 + (dof (dd t) j - 10) = dof (dd t) j by omega]
          exact hP2
      · have e : v = 2 := h0.trans (by decide)
        subst e
        have hP2 : Post (some (.int (nI (dnt (dd t) j).toNat))) h nx := hP
        refine Exists.intro _ (And.intro d0 (Exists.intro _ (And.intro rfl ?_)))
        refine Exists.intro _ (And.intro d6 (Exists.intro _ (And.intro rfl ?_)))
        refine Exists.intro _ (Exists.intro _ (And.intro d14 (And.intro (vp_in_nI (by omega) (by decide)) ?_)))
        rw [nI_clamp (show j < 2 ^ 31 by omega), r3]
        exact And.intro rfl (hP2)
set_option maxHeartbeats 8000000 in
theorem m_contact {l : Launch} {G : GG} {h : AH} {nx : Nat} {Post : Option Value → AH → Nat → Prop} {o d : Nat} {k v : Int32} {D : DD} {fs : List Value} (hX : XC G ∧ TX l G) (hM : MA h o fs) (f19 : fs[19]? = some (.int (nI d))) (hD : MPg h o d D) (hw : WD D) (hP : Post (some (.int (aContact D k v))) h nx) : Runs l G i_X12_contact 0 0 [.ref o, .int k, .int v] h nx Post := by
  have hd := hD.2.2.2.2.2.2.2
  obtain ⟨⟨trk, gm, go, gn, gR, gL, gf, gt, gk, d8, d18, d20, d21, d10, d13, d23, d24, d27, hd5, pm, pK, pR, pR6, pL, pL5, po, _⟩, ⟨gw, d19, pw⟩, _⟩ := id hD
  have hk40 := hw.k
  unfold aContact at hP
  refine en_X12_contact hX [] 80 rfl ?_
  refine Exists.intro _ (And.intro hM.1 (Exists.intro _ (And.intro f19 ?_)))
  refine And.intro (fun cz => absurd cz ((nI_n2 (show d < 64 by omega)).2.2)) (fun _ => ?_)
  refine Exists.intro _ (And.intro hM.1 (Exists.intro _ (And.intro (hM.2.2 18 (by decide)) ?_)))
  refine Exists.intro _ (And.intro hM.1 (Exists.intro _ (And.intro f19 ?_)))
  refine Exists.intro _ (Exists.intro _ (And.intro d18 (And.intro (vp_in_nI hd (by decide)) ?_)))
  rw [nI_clamp (show d < 2 ^ 31 by omega), pm]
  refine Exists.intro 0 (Exists.intro 0 (And.intro (Nat.le_refl _) (And.intro (Nat.le_refl _) (c_in hX ?_))))
  cases c2 : inR k (dK D) with
  | false =>
    rw [if_neg (fun z => by rw [(inR_in (by omega)).mp z] at c2; cases c2)]
    rw [if_neg (by rw [c2]; decide)] at hP
    refine And.intro (fun _ => ?_) (fun cz => by first | exact absurd cz (by decide) | exact absurd (by decide) cz)
    exact And.intro rfl (hP)
  | true =>
    rw [if_pos ((inR_in (by omega)).mpr c2)]
    rw [if_pos c2] at hP
    refine And.intro (fun cz => by first | exact absurd cz (by decide) | exact absurd (by decide) cz) (fun _ => ?_)
    obtain ⟨j, hj, rfl⟩ := (inR_c (by omega)).mp c2
    rw [nI_clamp (by omega)] at hP
    obtain ⟨r1, r2, r3⟩ := po j hj
    obtain ⟨w1, w2⟩ := pw j hj
    have e40 : (40 : Int32) * nI d + nI j = nI (40 * d + j) := by rw [show (40 : Int32) = nI 40 from rfl, nI_mul, nI_add]
    refine Exists.intro 0 (Exists.intro 0 (And.intro (Nat.le_refl _) (And.intro (Nat.le_refl _) (c_in hX ?_))))
    have e3 : (0 ≤ v ∧ v ≤ 2) ↔ inR v 3 = true := inR_in (n := 3) (by decide)
    cases c3 : inR v 3 with
    | false =>
      rw [if_neg (fun z => by rw [e3.mp z] at c3; cases c3)]
      rw [if_neg (fun e => by rw [e] at c3; exact absurd c3 (by decide)), if_neg (fun e => by rw [e] at c3; exact absurd c3 (by decide)), if_neg (fun e => by rw [e] at c3; exact absurd c3 (by decide))] at hP
      refine And.intro (fun cz => by first | exact absurd cz (by decide) | exact absurd (by decide) cz) (fun _ => ?_)
      exact And.intro rfl (hP)
    | true =>
      rw [if_pos (e3.mpr c3)]
      refine And.intro (fun _ => ?_) (fun cz => by first | exact absurd cz (by decide) | exact absurd (by decide) cz)
      refine Exists.intro _ (And.intro hM.1 (Exists.intro _ (And.intro f19 ?_)))
      obtain ⟨y, hy, rfl⟩ := (inR_c (by decide)).mp c3
      match y, hy with
      | 0, _ =>
        have hP2 : Post (some (.int (nI (if dow D j < 6 then dow D j else dow D j + 4)))) h nx := hP
        refine And.intro (fun cz => by first | exact absurd cz (by decide) | exact absurd (by decide) cz) (fun _ => ?_)
        refine Exists.intro _ (And.intro hM.1 (Exists.intro _ (And.intro (hM.2.2 19 (by decide)) ?_)))
        refine Exists.intro _ (Exists.intro _ (And.intro d19 (And.intro (by rw [e40]; exact vp_in_nI (by omega) (by decide)) ?_)))
        rw [e40, nI_clamp (show 40 * d + j < 2 ^ 31 by omega), w1]
        exact And.intro rfl (hP2)
      | 1, _ =>
        have hP2 : Post (some (.int (nI (dof D j)))) h nx := hP
        refine And.intro (fun _ => ?_) (fun cz => by first | exact absurd cz (by decide) | exact absurd (by decide) cz)
        refine And.intro (fun cz => by first | exact absurd cz (by decide) | exact absurd (by decide) cz) (fun _ => ?_)
        refine Exists.intro _ (And.intro hM.1 (Exists.intro _ (And.intro (hM.2.2 20 (by decide)) ?_)))
        refine Exists.intro _ (Exists.intro _ (And.intro d20 (And.intro (by rw [e40]; exact vp_in_nI (by omega) (by decide)) ?_)))
        rw [e40, nI_clamp (show 40 * d + j < 2 ^ 31 by omega), r1]
        exact And.intro rfl (hP2)
      | 2, _ =>
        have hP2 : Post (some (.int (nI (dnt D j).toNat))) h nx := hP
        refine And.intro (fun _ => ?_) (fun cz => by first | exact absurd cz (by decide) | exact absurd (by decide) cz)
        refine And.intro (fun _ => ?_) (fun cz => by first | exact absurd cz (by decide) | exact absurd (by decide) cz)
        refine Exists.intro _ (And.intro hM.1 (Exists.intro _ (And.intro (hM.2.2 21 (by decide)) ?_)))
        refine Exists.intro 3 (Exists.intro _ (Exists.intro _ (And.intro d21 (And.intro (Or.inr rfl) (And.intro (by rw [e40]; exact vp_in_nI (by omega) (by decide)) ?_)))))
        rw [e40, nI_clamp (show 40 * d + j < 2 ^ 31 by omega), r3]
        cases cn : dnt D j with
        | false =>
          rw [cn] at hP2
          refine And.intro (fun _ => ?_) (fun cz => by first | exact absurd cz (by decide) | exact absurd (by decide) cz)
          exact And.intro rfl (hP2)
        | true =>
          rw [cn] at hP2
          refine And.intro (fun cz => by first | exact absurd cz (by decide) | exact absurd (by decide) cz) (fun _ => ?_)
          exact And.intro rfl (hP2)
set_option maxHeartbeats 8000000 in
theorem m_count {l : Launch} {G : GG} {h : AH} {nx : Nat} {Post : Option Value → AH → Nat → Prop} {o d c tl lg : Nat} {v : Int32} {D : DD} {fs : List Value} (hX : XC G ∧ TX l G) (hM : MA h o fs) (f19 : fs[19]? = some (.int (nI d))) (f18 : fs[18]? = some (.int (nI c))) (f2 : fs[2]? = some (.int (nI tl))) (f91 : fs[91]? = some (.int (nI lg))) (hD : MPg h o d D) (hw : WD D) (hP : Post (some (.int (aCount D c d lg tl v))) h nx) : Runs l G i_X12_count 0 0 [.ref o, .int v] h nx Post := by
  have hd := hD.2.2.2.2.2.2.2
  obtain ⟨⟨trk, gm, go, gn, gR, gL, gf, gt, gk, d8, d18, d20, d21, d10, d13, d23, d24, d27, hd5, pm, pK, pR, pR6, pL, pL5, po, _⟩, _, ⟨gv, gl, _, _, _, _, d16, _, _, _, _, _, _, pv, _⟩, ⟨gI, eI, pI⟩, _⟩ := id hD
  refine en_X12_count hX [] 60 rfl ?_
  by_cases n0 : v = 0
  · subst n0
    refine Exists.intro 36 (And.intro (by decide) ?_)
    refine Exists.intro _ (And.intro hM.1 (Exists.intro _ (And.intro f18 ?_)))
    exact And.intro rfl (show Post (some (.int (nI c))) h nx from hP)
  · by_cases n8 : v = 8
    · subst n8
      refine Exists.intro 41 (And.intro (by decide) ?_)
      refine Exists.intro _ (And.intro hM.1 (Exists.intro _ (And.intro f91 ?_)))
      exact And.intro rfl (show Post (some (.int (nI lg))) h nx from hP)
    · by_cases n9 : v = 9
      · subst n9
        refine Exists.intro 46 (And.intro (by decide) ?_)
        refine Exists.intro _ (And.intro hM.1 (Exists.intro _ (And.intro f2 ?_)))
        exact And.intro rfl (show Post (some (.int (nI tl))) h nx from hP)
      · refine Exists.intro 51 (And.intro (by show (1 : Int) + Op.lookupswitch.offset [(0, 35), (8, 40), (9, 45)] 50 v.toInt = ((51 : Nat) : Int); rw [Op.lookupswitch.offset_cons, if_neg (fun e => n0 (Int32.toInt_inj.mp (show v.toInt = (0 : Int32).toInt from e.symm))), Op.lookupswitch.offset_cons, if_neg (fun e => n8 (Int32.toInt_inj.mp (show v.toInt = (8 : Int32).toInt from e.symm))), Op.lookupswitch.offset_cons, if_neg (fun e => n9 (Int32.toInt_inj.mp (show v.toInt = (9 : Int32).toInt from e.symm))), Op.lookupswitch.offset_nil]; rfl) ?_)
        refine Exists.intro _ (And.intro hM.1 (Exists.intro _ (And.intro f19 ?_)))
        refine And.intro (fun _ => ?_) (fun cz => absurd cz ((nI_n2 (show d < 64 by omega)).2.2))
        refine And.intro (fun hdd => ?_) (And.intro (fun h0 => ?_) (And.intro (fun h0 => ?_) (And.intro (fun h0 => ?_) (And.intro (fun h0 => ?_) (And.intro (fun h0 => ?_) (And.intro (fun h0 => ?_) (And.intro (fun h0 => ?_) trivial)))))))
        · have hP2 : Post (some (.int (-1))) h nx := by
            unfold aCount dCnt at hP
            rw [if_neg n0, if_neg (fun e => by rw [e] at hdd; exact absurd hdd (by decide)), if_neg n8, if_neg n9, if_neg (fun e => by rw [e] at hdd; exact absurd hdd (by decide)), if_neg (fun e => by rw [e] at hdd; exact absurd hdd (by decide)), if_neg (fun e => by rw [e] at hdd; exact absurd hdd (by decide)), if_neg (fun e => by rw [e] at hdd; exact absurd hdd (by decide)), if_neg (fun e => by rw [e] at hdd; exact absurd hdd (by decide)), if_neg (fun e => by rw [e] at hdd; exact absurd hdd (by decide))] at hP
            exact hP
          exact And.intro rfl (hP2)
        · have e : v = 1 := h0.trans (by decide)
          subst e
          refine Exists.intro _ (And.intro hM.1 (Exists.intro _ (And.intro f19 ?_)))
          exact And.intro rfl (show Post (some (.int (nI d))) h nx from hP)
        · have e : v = 2 := h0.trans (by decide)
          subst e
          refine Exists.intro _ (And.intro hM.1 (Exists.intro _ (And.intro (hM.2.2 7 (by decide)) ?_)))
          refine Exists.intro _ (And.intro hM.1 (Exists.intro _ (And.intro f19 ?_)))
          refine Exists.intro _ (Exists.intro _ (And.intro eI (And.intro (vp_in_nI hd (by decide)) ?_)))
          rw [nI_clamp (show d < 2 ^ 31 by omega), pI]
          exact And.intro rfl (show Post (some (.int (nI (dI D)))) h nx from hP)
        · have e : v = 3 := h0.trans (by decide)
          subst e
          refine Exists.intro _ (And.intro hM.1 (Exists.intro _ (And.intro (hM.2.2 10 (by decide)) ?_)))
          refine Exists.intro _ (And.intro hM.1 (Exists.intro _ (And.intro f19 ?_)))
          refine Exists.intro _ (Exists.intro _ (And.intro d10 (And.intro (vp_in_nI hd (by decide)) ?_)))
          rw [nI_clamp (show d < 2 ^ 31 by omega), pR]
          exact And.intro rfl (show Post (some (.int (nI (dR D)))) h nx from hP)
        · have e : v = 4 := h0.trans (by decide)
          subst e
          refine Exists.intro _ (And.intro hM.1 (Exists.intro _ (And.intro (hM.2.2 13 (by decide)) ?_)))
          refine Exists.intro _ (And.intro hM.1 (Exists.intro _ (And.intro f19 ?_)))
          refine Exists.intro _ (Exists.intro _ (And.intro d13 (And.intro (vp_in_nI hd (by decide)) ?_)))
          rw [nI_clamp (show d < 2 ^ 31 by omega), pL]
          exact And.intro rfl (show Post (some (.int (nI (dL D)))) h nx from hP)
        · have e : v = 5 := h0.trans (by decide)
          subst e
          refine Exists.intro _ (And.intro hM.1 (Exists.intro _ (And.intro (hM.2.2 18 (by decide)) ?_)))
          refine Exists.intro _ (And.intro hM.1 (Exists.intro _ (And.intro f19 ?_)))
          refine Exists.intro _ (Exists.intro _ (And.intro d18 (And.intro (vp_in_nI hd (by decide)) ?_)))
          rw [nI_clamp (show d < 2 ^ 31 by omega), pm]
          exact And.intro rfl (show Post (some (.int (nI (dK D)))) h nx from hP)
        · have e : v = 6 := h0.trans (by decide)
          subst e
          refine Exists.intro _ (And.intro hM.1 (Exists.intro _ (And.intro (hM.2.2 16 (by decide)) ?_)))
          refine Exists.intro _ (And.intro hM.1 (Exists.intro _ (And.intro f19 ?_)))
          refine Exists.intro _ (Exists.intro _ (And.intro d16 (And.intro (vp_in_nI hd (by decide)) ?_)))
          rw [nI_clamp (show d < 2 ^ 31 by omega), pv]
          exact And.intro rfl (show Post (some (.int (nI (dV D)))) h nx from hP)
        · have e : v = 7 := h0.trans (by decide)
          subst e
          refine Exists.intro _ (And.intro hM.1 (Exists.intro 0 (Exists.intro 0 (And.intro (Nat.le_refl _) (And.intro (Nat.le_refl _) (m_flawsThere hX hM f19 hD hw ?_))))))
          exact And.intro rfl (show Post (some (.int (nI (flL D).length))) h nx from hP)
