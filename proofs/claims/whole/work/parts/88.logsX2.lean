/-! logs, x: write, void, and the questions -/
def okN (m : Nat) (n a : Int32) : Bool := decide (0 ≤ n) && decide (n ≤ 6) && decide (0 ≤ a) && okA m n.toNatClampNeg a.toNatClampNeg
theorem okN_c {m : Nat} {n a : Int32} (h : okN m n a = true) : ∃ i j : Nat, n = nI i ∧ a = nI j ∧ i ≤ 6 ∧ j < 2 ^ 31 ∧ n.toNatClampNeg = i ∧ a.toNatClampNeg = j ∧ okA m i j = true := by
  unfold okN at h
  rw [Bool.and_eq_true, Bool.and_eq_true, Bool.and_eq_true, decide_eq_true_eq, decide_eq_true_eq, decide_eq_true_eq] at h
  obtain ⟨⟨⟨h1, h2⟩, h3⟩, h4⟩ := h
  obtain ⟨i, hi, rfl⟩ := nI_of (Int32.not_lt.mpr h1)
  obtain ⟨j, hj, rfl⟩ := nI_of (Int32.not_lt.mpr h3)
  rw [nI_clamp hi, nI_clamp hj] at h4
  refine ⟨i, j, rfl, rfl, ?_, hj, nI_clamp hi, nI_clamp hj, h4⟩
  rcases Nat.lt_or_ge 6 i with z | z
  · exact absurd (nI_lt (a := 6) z hi) (Int32.not_lt.mpr h2)
  · exact z
set_option maxHeartbeats 8000000 in
theorem x_areActs {l : Launch} {G : GG} {h : AH} {nx : Nat} {Post : Option Value → AH → Nat → Prop} {d : Nat} {n a : Int32} {D : DD} (hX : XC G ∧ TX l G) (hD : XD h d D) (hw : WD D) (hP : Post (some (.int (nI (okN (dI D) n a).toNat))) h nx) : Runs l G i_X4_areActs 0 0 [.ref d, .int n, .int a] h nx Post := by
  obtain ⟨cc, g2, g3, g4, g5, g10, g13, g14, g16, g17, g18, g19, g27, g28, g1, g11, g12, d0, _⟩ := id hD
  have hi := hw.i
  unfold okN at hP
  by_cases c1 : n < 0
  · rw [decide_eq_false (Int32.not_le.mpr c1)] at hP
    exact c_areActsNo hX (Or.inl c1) hP
  · rw [decide_eq_true (Int32.not_lt.mp c1)] at hP
    by_cases c2 : n ≤ 6
    · rw [decide_eq_true c2] at hP
      by_cases c3 : a < 0
      · rw [decide_eq_false (Int32.not_le.mpr c3)] at hP
        exact c_areActsNo hX (Or.inr (Or.inr c3)) hP
      · rw [decide_eq_true (Int32.not_lt.mp c3)] at hP
        obtain ⟨i, hi2, rfl⟩ := nI_of c1
        obtain ⟨j, hj, rfl⟩ := nI_of c3
        rw [nI_clamp hi2, nI_clamp hj] at hP
        refine c_areActs hX d0 rfl hi ?_ hj hP
        rcases Nat.lt_or_ge 6 i with z | z
        · exact absurd (nI_lt (a := 6) z hi2) (Int32.not_lt.mpr c2)
        · exact z
    · rw [decide_eq_false c2] at hP
      exact c_areActsNo hX (Or.inr (Or.inl (Int32.not_le.mp c2))) hP
def lgB (D : DD) (L : List LE) (n a s : Int32) : Bool := decide (L.length < 40) && (inB s (dL D) && okN (dI D) n a)
def lgL (D : DD) (L : List LE) (n a s : Int32) : List LE := if lgB D L n a s = true then L ++ [(-1, n.toNatClampNeg, a.toNatClampNeg, s.toNatClampNeg)] else L
def lgA (D : DD) (L : List LE) (n a s : Int32) : Int32 := if lgB D L n a s = true then nI L.length else -1
def anB (L : List LE) (k : Int32) : Bool := decide (L.length < 40) && (decide (0 ≤ k) && (decide (k < nI L.length) && decide ((gE L k.toNatClampNeg).1 = -1)))
def anL (L : List LE) (k : Int32) : List LE := if anB L k = true then L ++ [(k, 0, 0, 0)] else L
def anA (L : List LE) (k : Int32) : Int32 := if anB L k = true then nI L.length else -1
theorem WLg_add {L : List LE} {e : LE} (hw : WLg L) (hl : L.length < 40) (he : (e.1 = -1 ∧ e.2.1 ≤ 6 ∧ e.2.2.1 < 2 ^ 31 ∧ e.2.2.2 < 32) ∨ ∃ j, j < L.length ∧ e.1 = nI j) : WLg (L ++ [e]) := by
  refine ⟨by rw [List.length_append, List.length_singleton]; omega, fun k hk => ?_⟩
  rw [List.length_append, List.length_singleton] at hk
  by_cases c : k = L.length
  · rw [c, gE_r]
    exact he
  · rw [gE_l (by omega)]
    exact hw.2 k (by omega)
theorem lgL_ok {D : DD} {L : List LE} {n a s : Int32} (hw : WLg L) (hD : WD D) : WLg (lgL D L n a s) := by
  unfold lgL
  split
  · rename_i hb
    unfold lgB at hb
    rw [Bool.and_eq_true, Bool.and_eq_true, decide_eq_true_eq] at hb
    obtain ⟨i, j, _, _, h6, hj, ei, ej, _⟩ := okN_c hb.2.2
    have hl := hD.l
    obtain ⟨t, ht, rfl⟩ := (inB_c (by omega)).mp hb.2.1
    have h5 : 2 ^ dL D ≤ 2 ^ 5 := Nat.pow_le_pow_right (by decide) hl
    refine WLg_add hw hb.1 (Or.inl ⟨rfl, ?_, ?_, ?_⟩)
    · show n.toNatClampNeg ≤ 6
      rw [ei]
      exact h6
    · show a.toNatClampNeg < 2 ^ 31
      rw [ej]
      exact hj
    · show (nI t).toNatClampNeg < 32
      rw [nI_clamp (by omega)]
      omega
  · exact hw
theorem anL_ok {L : List LE} {k : Int32} (hw : WLg L) : WLg (anL L k) := by
  unfold anL
  split
  · rename_i hb
    unfold anB at hb
    rw [Bool.and_eq_true, Bool.and_eq_true, Bool.and_eq_true, decide_eq_true_eq, decide_eq_true_eq, decide_eq_true_eq] at hb
    obtain ⟨j, hj, rfl⟩ := nI_of (Int32.not_lt.mpr hb.2.1)
    refine WLg_add hw hb.1 (Or.inr ⟨j, ?_, rfl⟩)
    have := hw.1
    exact (nI_ltI hj (by omega)).mp hb.2.2.1
  · exact hw
set_option maxHeartbeats 8000000 in
theorem x_write {l : Launch} {G : GG} {h : AH} {nx : Nat} {Post : Option Value → AH → Nat → Prop} {w d : Nat} {n a s : Int32} {D : DD} {L : List LE} (hX : XC G ∧ TX l G) (hL : XLg h w L) (hw : WLg L) (hD : XD h d D) (hwd : WD D) (hP : ∀ h1 : AH, (∀ x, x < w + 64 ∨ w + 70 ≤ x → h1 x = h x) → XLg h1 w (lgL D L n a s) → Post (some (.int (lgA D L n a s))) h1 nx) : Runs l G i_X4_write 0 0 [.ref (w + 64), .ref d, .int n, .int a, .int s] h nx Post := by
  obtain ⟨cc, g2, g3, g4, g5, g10, g13, g14, g16, g17, g18, g19, g27, g28, g1, g11, g12, d0, _⟩ := id hD
  have hl := hwd.l
  have tail : Go l G 4 s_X4_write 0 0 Post 23 [(5, .int (nI (inB s (dL D)).toNat)), (0, .ref (w + 64)), (1, .ref d), (2, .int n), (3, .int a), (4, .int s)] [] h nx 0 0 := by
    refine Go.of hX.2 ck_X4_write [] 40 ?_
    obtain ⟨_, _, _, _, _, e0, _⟩ := id hL
    have no : lgB D L n a s = false → Post (some (.int (-1))) h nx := fun z => by
      have hP := hP h (fun _ _ => rfl) (by unfold lgL; rw [if_neg (by rw [z]; decide)]; exact hL)
      unfold lgA at hP
      rw [if_neg (by rw [z]; decide)] at hP
      exact hP
    refine Exists.intro _ (And.intro e0 (Exists.intro _ (And.intro rfl ?_)))
    by_cases c1 : L.length < 40
    · refine And.intro (fun cz => absurd cz (nI_ge (b := 40) c1 (by decide))) (fun _ => ?_)
      cases c2 : inB s (dL D) with
      | false =>
        refine And.intro (fun _ => ?_) (fun cz => by first | exact absurd cz (by decide) | exact absurd (by decide) cz)
        exact And.intro rfl ((no (by unfold lgB; rw [c2, Bool.false_and, Bool.and_false])))
      | true =>
        refine And.intro (fun cz => by first | exact absurd cz (by decide) | exact absurd (by decide) cz) (fun _ => ?_)
        refine Exists.intro 0 (Exists.intro 0 (And.intro (Nat.le_refl _) (And.intro (Nat.le_refl _) (x_areActs hX hD hwd ?_))))
        cases c3 : okN (dI D) n a with
        | false =>
          refine And.intro (fun cz => by first | exact absurd cz (by decide) | exact absurd (by decide) cz) (fun _ => ?_)
          exact And.intro rfl ((no (by unfold lgB; rw [c2, c3, Bool.and_false, Bool.and_false])))
        | true =>
          refine And.intro (fun _ => ?_) (fun cz => by first | exact absurd cz (by decide) | exact absurd (by decide) cz)
          have cb : lgB D L n a s = true := by unfold lgB; rw [c2, c3, decide_eq_true c1]; rfl
          obtain ⟨i, j, en, ea, h6, hj, ei, ej, _⟩ := okN_c c3
          obtain ⟨t, ht, es⟩ := (inB_c (by omega)).mp c2
          have h5 : 2 ^ dL D ≤ 2 ^ 5 := Nat.pow_le_pow_right (by decide) hl
          have et : s.toNatClampNeg = t := by rw [es]; exact nI_clamp (by omega)
          refine Exists.intro _ (And.intro e0 (Exists.intro 0 (Exists.intro 0 (And.intro (Nat.le_refl _) (And.intro (Nat.le_refl _) (x_addEntry (n1 := n.toNatClampNeg) (n2 := a.toNatClampNeg) (n3 := s.toNatClampNeg) hX hL c1 hw (fun _ => ⟨by rw [ei]; exact en, by rw [ej]; exact ea, by rw [et]; exact es⟩) (fun h1 y1 y2 => ?_)))))))
          have hP := hP h1 y1 (by unfold lgL; rw [if_pos cb]; exact y2)
          unfold lgA at hP
          rw [if_pos cb] at hP
          exact And.intro rfl (hP)
    · refine And.intro (fun _ => ?_) (fun cz => absurd (nI_le (a := 40) (b := L.length) (by omega) (by have := hw.1; omega)) cz)
      exact And.intro rfl ((no (by unfold lgB; rw [decide_eq_false c1]; rfl)))
  refine en_X4_write hX [23] 40 rfl ?_
  have e1 : (1 : Int32) <<< (nI (dL D) &&& 31) = nI (2 ^ dL D) := nx_pow (by omega)
  unfold inB at tail
  by_cases c1 : s < 0
  · rw [decide_eq_false (Int32.not_le.mpr c1), Bool.false_and] at tail
    refine And.intro (fun _ => ?_) (fun cz => absurd (c1) cz)
    exact go_loc (lv' := [(5, .int (nI 0)), (0, .ref (w + 64)), (1, .ref d), (2, .int n), (3, .int a), (4, .int s)]) ⟨rfl, rfl, rfl, rfl, rfl, rfl, trivial⟩ (tail)
  · rw [decide_eq_true (Int32.not_lt.mp c1), Bool.true_and] at tail
    refine And.intro (fun cz => absurd cz (c1)) (fun _ => ?_)
    refine Exists.intro _ (And.intro d0 (Exists.intro _ (And.intro rfl ?_)))
    by_cases c2 : (1 : Int32) <<< (nI (dL D) &&& 31) ≤ s
    · refine And.intro (fun _ => ?_) (fun cz => absurd (c2) cz)
      rw [e1] at c2
      rw [decide_eq_false (Int32.not_lt.mpr c2)] at tail
      exact go_loc (lv' := [(5, .int (nI 0)), (0, .ref (w + 64)), (1, .ref d), (2, .int n), (3, .int a), (4, .int s)]) ⟨rfl, rfl, rfl, rfl, rfl, rfl, trivial⟩ (tail)
    · refine And.intro (fun cz => absurd cz (c2)) (fun _ => ?_)
      rw [e1] at c2
      rw [decide_eq_true (Int32.not_le.mp c2)] at tail
      exact go_loc (lv' := [(5, .int (nI 1)), (0, .ref (w + 64)), (1, .ref d), (2, .int n), (3, .int a), (4, .int s)]) ⟨rfl, rfl, rfl, rfl, rfl, rfl, trivial⟩ (tail)
set_option maxHeartbeats 8000000 in
theorem x_writeVoid {l : Launch} {G : GG} {h : AH} {nx : Nat} {Post : Option Value → AH → Nat → Prop} {w : Nat} {k : Int32} {L : List LE} (hX : XC G ∧ TX l G) (hL : XLg h w L) (hw : WLg L) (hP : ∀ h1 : AH, (∀ x, x < w + 64 ∨ w + 70 ≤ x → h1 x = h x) → XLg h1 w (anL L k) → Post (some (.int (anA L k))) h1 nx) : Runs l G i_X4_writeVoid 0 0 [.ref (w + 64), .int k] h nx Post := by
  have no : anB L k = false → Post (some (.int (-1))) h nx := fun z => by
    have hP := hP h (fun _ _ => rfl) (by unfold anL; rw [if_neg (by rw [z]; decide)]; exact hL)
    unfold anA at hP
    rw [if_neg (by rw [z]; decide)] at hP
    exact hP
  have h40 := hw.1
  obtain ⟨g1, g2, g3, g4, g6, e0, e1, e2, e3, e4, e6, r⟩ := id hL
  refine en_X4_writeVoid hX [] 60 rfl ?_
  refine Exists.intro _ (And.intro e0 (Exists.intro _ (And.intro rfl ?_)))
  by_cases c1 : L.length < 40
  · refine And.intro (fun cz => absurd cz (nI_ge (b := 40) c1 (by decide))) (fun _ => ?_)
    by_cases c2 : k < 0
    · refine And.intro (fun _ => ?_) (fun cz => absurd (c2) cz)
      exact And.intro rfl ((no (by unfold anB; rw [decide_eq_false (Int32.not_le.mpr c2), Bool.false_and, Bool.and_false])))
    · refine And.intro (fun cz => absurd cz (c2)) (fun _ => ?_)
      obtain ⟨j, hj, rfl⟩ := nI_of c2
      refine Exists.intro _ (And.intro e0 (Exists.intro _ (And.intro rfl ?_)))
      by_cases c3 : j < L.length
      · refine And.intro (fun cz => absurd cz (nI_ge (a := j) (b := L.length) c3 (by omega))) (fun _ => ?_)
        refine And.intro (fun cz => absurd cz (nI_ge (a := j) (b := 40) (by omega) (by decide))) (fun _ => ?_)
        refine Exists.intro _ (And.intro e0 (Exists.intro _ (And.intro rfl ?_)))
        refine Exists.intro _ (Exists.intro _ (And.intro e4 (And.intro (vp_in_nI (by omega) (by decide)) ?_)))
        rw [nI_clamp hj, (r j c3).1]
        by_cases c4 : (gE L j).1 = -1
        · refine And.intro (fun _ => ?_) (fun cz => absurd (c4) cz)
          have cb : anB L (nI j) = true := by unfold anB; rw [decide_eq_true c1, decide_eq_true (Int32.not_lt.mp c2), decide_eq_true (nI_lt c3 (by omega)), nI_clamp hj, decide_eq_true c4]; rfl
          refine Exists.intro _ (And.intro e0 (Exists.intro 0 (Exists.intro 0 (And.intro (Nat.le_refl _) (And.intro (Nat.le_refl _) (x_addEntry (n1 := 0) (n2 := 0) (n3 := 0) hX hL c1 hw (fun z => ⟨rfl, rfl, rfl⟩) (fun h1 y1 y2 => ?_)))))))
          have hP := hP h1 y1 (by unfold anL; rw [if_pos cb]; exact y2)
          unfold anA at hP
          rw [if_pos cb] at hP
          exact And.intro rfl (hP)
        · refine And.intro (fun cz => absurd cz (c4)) (fun _ => ?_)
          exact And.intro rfl ((no (by unfold anB; rw [nI_clamp hj, decide_eq_false c4, Bool.and_false, Bool.and_false, Bool.and_false])))
      · refine And.intro (fun _ => ?_) (fun cz => absurd (nI_le (a := L.length) (b := j) (by omega) hj) cz)
        exact And.intro rfl ((no (by unfold anB; rw [decide_eq_false (nI_nlt (by omega) hj), Bool.false_and, Bool.and_false, Bool.and_false])))
  · refine And.intro (fun _ => ?_) (fun cz => absurd (nI_le (a := 40) (b := L.length) (by omega) (by omega)) cz)
    exact And.intro rfl ((no (by unfold anB; rw [decide_eq_false c1]; rfl)))
set_option maxHeartbeats 8000000 in
theorem x_log {l : Launch} {G : GG} {h : AH} {nx : Nat} {Post : Option Value → AH → Nat → Prop} {o w tl c t : Nat} {fp n a s : Int32} {da : Nat → Nat} {dd : Nat → DD} {L : List LE} (hX : XC G ∧ TX l G) (hA : XA h o w tl fp c (nI t) da dd) (ht : t < c) (hL : XLg h w L) (hw : WLg L) (hP : ∀ h1 : AH, (∀ x, x < w + 64 ∨ w + 70 ≤ x → h1 x = h x) → XLg h1 w (lgL (dd t) L n a s) → Post (some (.int (lgA (dd t) L n a s))) h1 nx) : Runs l G i_X11_log 0 0 [.ref o, .int n, .int a, .int s] h nx Post := by
  have hdt : isDr w c da dd (da t) (dd t) := Or.inr ⟨t, ht, rfl, rfl⟩
  obtain ⟨hD, hwd, _⟩ := hdt.xd hA
  obtain ⟨_, _, _, _, _, e0, _⟩ := id hL
  have hc := hA.2.2.1
  refine en_X11_log hX [] 30 rfl ?_
  refine Exists.intro _ (And.intro hA.1 (Exists.intro _ (And.intro rfl ?_)))
  refine And.intro (fun _ => ?_) (fun cz => absurd cz ((nI_n2 (show t < 64 by omega)).2.2))
  refine Exists.intro _ (And.intro hA.1 (Exists.intro _ (And.intro rfl ?_)))
  refine Exists.intro _ (And.intro hA.1 (Exists.intro 0 (Exists.intro 0 (And.intro (Nat.le_refl _) (And.intro (Nat.le_refl _) (x_current hX hA ht ?_))))))
  refine Exists.intro _ (And.intro e0 (Exists.intro 0 (Exists.intro 0 (And.intro (Nat.le_refl _) (And.intro (Nat.le_refl _) (x_write hX hL hw hD hwd (fun h1 y1 y2 => ?_)))))))
  exact And.intro rfl ((hP h1 y1 y2))
set_option maxHeartbeats 8000000 in
theorem x_annul {l : Launch} {G : GG} {h : AH} {nx : Nat} {Post : Option Value → AH → Nat → Prop} {o w tl c : Nat} {fp ah k : Int32} {da : Nat → Nat} {dd : Nat → DD} {L : List LE} (hX : XC G ∧ TX l G) (hA : XA h o w tl fp c ah da dd) (hL : XLg h w L) (hw : WLg L) (hP : ∀ h1 : AH, (∀ x, x < w + 64 ∨ w + 70 ≤ x → h1 x = h x) → XLg h1 w (anL L k) → Post (some (.int (anA L k))) h1 nx) : Runs l G i_X11_annul 0 0 [.ref o, .int k] h nx Post := by
  obtain ⟨_, _, _, _, _, e0, _⟩ := id hL
  refine en_X11_annul hX [] 30 rfl ?_
  refine Exists.intro _ (And.intro hA.1 (Exists.intro _ (And.intro rfl ?_)))
  refine Exists.intro _ (And.intro e0 (Exists.intro 0 (Exists.intro 0 (And.intro (Nat.le_refl _) (And.intro (Nat.le_refl _) (x_writeVoid hX hL hw (fun h1 y1 y2 => ?_)))))))
  exact And.intro rfl ((hP h1 y1 y2))
noncomputable def aFits (D : DD) (L : List LE) (f n : Int32) : Int32 := if vFn (dK D) (dR D) (dow D) f = true ∧ knB L n = true then nI (fitB (kOne D (fOf f) none) L n.toNatClampNeg).toNat else -2
theorem knB_c {L : List LE} {n : Int32} (hl : L.length ≤ 40) (h : knB L n = true) : ∃ m, m ≤ L.length ∧ n = nI m ∧ n.toNatClampNeg = m := by
  unfold knB at h
  rw [Bool.and_eq_true, decide_eq_true_eq, decide_eq_true_eq] at h
  obtain ⟨m, hm, rfl⟩ := nI_of (Int32.not_lt.mpr h.1)
  refine ⟨m, ?_, rfl, nI_clamp hm⟩
  rcases Nat.lt_or_ge L.length m with z | z
  · exact absurd (nI_lt z hm) (Int32.not_lt.mpr h.2)
  · exact z
set_option maxHeartbeats 8000000 in
theorem x_fits {l : Launch} {G : GG} {h : AH} {nx : Nat} {Post : Option Value → AH → Nat → Prop} {o w tl c t vb : Nat} {fp f n : Int32} {da : Nat → Nat} {dd : Nat → DD} {L : List LE} (hX : XC G ∧ TX l G) (hA : XA h o w tl fp c (nI t) da dd) (hH : XH h w c da dd vb) (ht : t < c) (hv : vb + 1 < 2 ^ 31) (hL : XLg h w L) (hw : WLg L) (hP : ∀ h1 : AH, (∀ x, x < w + 43 ∨ w + 52 ≤ x → h1 x = h x) → XH h1 w c da dd (vb + 1) → Post (some (.int (aFits (dd t) L f n))) h1 nx) : Runs l G i_X11_fits 0 0 [.ref o, .int f, .int n] h nx Post := by
  have hdt : isDr w c da dd (da t) (dd t) := Or.inr ⟨t, ht, rfl, rfl⟩
  obtain ⟨hD, hwd, _⟩ := hdt.xd hA
  obtain ⟨cc, g2, g3, g4, g5, g10, g13, g14, g16, g17, g18, g19, g27, g28, g1, g11, g12, d0, _⟩ := id hD
  obtain ⟨_, _, _, _, _, e0, _⟩ := id hL
  have hc := hA.2.2.1
  have no : ¬ (vFn (dK (dd t)) (dR (dd t)) (dow (dd t)) f = true ∧ knB L n = true) → Post (some (.int (-2))) h nx := fun z => by
    have hP := hP h (fun _ _ => rfl) (hH.le (by omega))
    unfold aFits at hP
    rw [if_neg z] at hP
    exact hP
  refine en_X11_fits hX [] 60 rfl ?_
  refine Exists.intro _ (And.intro hA.1 (Exists.intro 0 (Exists.intro 0 (And.intro (Nat.le_refl _) (And.intro (Nat.le_refl _) (x_current hX hA ht ?_))))))
  refine Exists.intro _ (And.intro hA.1 (Exists.intro _ (And.intro rfl ?_)))
  refine And.intro (fun cz => absurd cz ((nI_n2 (show t < 64 by omega)).2.2)) (fun _ => ?_)
  refine Exists.intro _ (And.intro d0 (Exists.intro 0 (Exists.intro 0 (And.intro (Nat.le_refl _) (And.intro (Nat.le_refl _) (x_isFlawOrNone hX hD hwd ?_))))))
  cases c1 : vFn (dK (dd t)) (dR (dd t)) (dow (dd t)) f with
  | false =>
    refine And.intro (fun _ => ?_) (fun cz => by first | exact absurd cz (by decide) | exact absurd (by decide) cz)
    exact And.intro rfl ((no (fun z => by rw [c1] at z; exact absurd z.1 (by decide))))
  | true =>
    refine And.intro (fun cz => by first | exact absurd cz (by decide) | exact absurd (by decide) cz) (fun _ => ?_)
    refine Exists.intro _ (And.intro hA.1 (Exists.intro _ (And.intro rfl ?_)))
    refine Exists.intro _ (And.intro e0 (Exists.intro 0 (Exists.intro 0 (And.intro (Nat.le_refl _) (And.intro (Nat.le_refl _) (x_isKnown hX hL ?_))))))
    cases c2 : knB L n with
    | false =>
      refine And.intro (fun cz => by first | exact absurd cz (by decide) | exact absurd (by decide) cz) (fun _ => ?_)
      exact And.intro rfl ((no (fun z => by rw [c2] at z; exact absurd z.2 (by decide))))
    | true =>
      refine And.intro (fun _ => ?_) (fun cz => by first | exact absurd cz (by decide) | exact absurd (by decide) cz)
      obtain ⟨m, hm, em, ec⟩ := knB_c hw.1 c2
      have hf1 := fOf_n hwd c1
      refine Exists.intro _ (And.intro hA.1 (Exists.intro _ (And.intro rfl ?_)))
      rw [em, ← hf1.1]
      refine Exists.intro _ (And.intro e0 (Exists.intro 0 (Exists.intro 0 (And.intro (Nat.le_refl _) (And.intro (Nat.le_refl _) (x_isFitting hX hA hH ht hf1.2 hv hL hw hm (fun h1 ver y1 y2 y3 y4 => ?_)))))))
      have hP := hP h1 y1 (HTx.xh y2 (WK_one hwd hf1.2 okW_no) hdt hdt y3 y4)
      unfold aFits at hP
      rw [if_pos ⟨c1, c2⟩, ec] at hP
      cases c3 : fitB (kOne (dd t) (fOf f) none) L m with
      | false =>
        rw [c3] at hP
        refine And.intro (fun _ => ?_) (fun cz => by first | exact absurd cz (by decide) | exact absurd (by decide) cz)
        exact And.intro rfl (hP)
      | true =>
        rw [c3] at hP
        refine And.intro (fun cz => by first | exact absurd cz (by decide) | exact absurd (by decide) cz) (fun _ => ?_)
        exact And.intro rfl (hP)
