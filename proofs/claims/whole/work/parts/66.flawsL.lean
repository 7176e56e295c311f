/-! the flaws that there are, as a list; x's lists of them, the model's counts -/
theorem gD {L : List Nat} {k : Nat} (hk : k < L.length) : L.getD k 0 = L[k] := by rw [List.getD_eq_getElem?_getD, List.getElem?_eq_getElem hk]; rfl
theorem vFb_lt {D : DD} (hw : WD D) {n : Nat} (h : vFb (dK D) (dR D) (dow D) n = true) : n < 212 := by
  have hk := hw.k
  have hr := hw.r
  unfold vFb at h
  split at h
  · rw [decide_eq_true_eq] at h; omega
  · rw [Bool.and_eq_true, decide_eq_true_eq] at h
    omega
theorem mem_flL {D : DD} (hw : WD D) {n : Nat} : n ∈ flL D ↔ vFb (dK D) (dR D) (dow D) n = true := by
  unfold flL
  rw [List.mem_filter, List.mem_range]
  exact ⟨fun h => h.2, fun h => ⟨vFb_lt hw h, h⟩⟩
theorem flL_nd (D : DD) : (flL D).Nodup := List.Pairwise.filter _ List.nodup_range
theorem flL_len {D : DD} (hw : WD D) : (flL D).length ≤ 132 := by
  unfold flL
  rw [← List.countP_eq_length_filter]
  refine Nat.le_trans (List.countP_mono_left (q := fun n => (decide (n < 160) && decide (n % 4 < 3)) || decide (200 ≤ n)) (fun n _ h => ?_)) (by decide +kernel)
  have hk := hw.k
  have hr := hw.r
  unfold vFb at h
  split at h
  · next h2 => rw [decide_eq_true h2, Bool.or_true]
  · simp only [Bool.and_eq_true, Bool.or_eq_true, decide_eq_true_eq] at h ⊢
    left
    refine ⟨by omega, ?_⟩
    rcases h.2 with a | ⟨a, _⟩ <;> omega
theorem flL_get {D : DD} {k : Nat} (hk : k < (flL D).length) : (flL D).getD k 0 ∈ flL D := by
  rw [gD hk]
  exact List.getElem_mem hk
theorem flL_ok {D : DD} (hw : WD D) {k : Nat} (hk : k < (flL D).length) : okW D (some ((flL D).getD k 0)) := fun n e => by
  cases e
  exact (mem_flL hw).mp (flL_get hk)
theorem flL_lt {D : DD} (hw : WD D) {k : Nat} (hk : k < (flL D).length) : (flL D).getD k 0 < 212 := vFb_lt hw ((mem_flL hw).mp (flL_get hk))
theorem flL_ix {D : DD} {n : Nat} (h : n ∈ flL D) : ∃ k, k < (flL D).length ∧ (flL D).getD k 0 = n := by
  obtain ⟨k, hk, e⟩ := List.mem_iff_getElem.mp h
  exact ⟨k, hk, by rw [gD hk]; exact e⟩
theorem flL_inj {D : DD} {i j : Nat} (hi : i < (flL D).length) (hj : j < (flL D).length) (h : (flL D).getD i 0 = (flL D).getD j 0) : i = j := by
  rw [gD hi, gD hj] at h
  rcases Nat.lt_trichotomy i j with z | z | z
  · exact absurd h ((List.pairwise_iff_getElem.mp (flL_nd D)) i j hi hj z)
  · exact z
  · exact absurd h.symm ((List.pairwise_iff_getElem.mp (flL_nd D)) j i hj hi z)
theorem fIx_c {x : Int32} {g : Nat → Int32} {L : List Nat} (hg : ∀ k, k < L.length → g k = nI (L.getD k 0)) : ∀ (j i : Nat), i + j = L.length → (∃ k, i ≤ k ∧ k < L.length ∧ fIx g x j i = nI k ∧ x = nI (L.getD k 0)) ∨ (fIx g x j i = -1 ∧ ∀ k, i ≤ k → k < L.length → x ≠ nI (L.getD k 0))
  | 0, i, hij => Or.inr ⟨rfl, fun k h1 h2 => by omega⟩
  | j + 1, i, hij => by
    have hi := hg i (by omega)
    unfold fIx
    by_cases e : g i = x
    · rw [if_pos e]
      exact Or.inl ⟨i, Nat.le_refl _, by omega, rfl, by rw [← e, hi]⟩
    · rw [if_neg e]
      rcases fIx_c hg j (i + 1) (by omega) with ⟨k, a, b, c, d⟩ | ⟨a, b⟩
      · exact Or.inl ⟨k, by omega, b, c, d⟩
      · refine Or.inr ⟨a, fun k h1 h2 => ?_⟩
        by_cases e2 : k = i
        · rw [e2, ← hi]; exact fun z => e z.symm
        · exact b k (by omega) h2
theorem vFx_ix {D : DD} (hw : WD D) {x : Int32} : vFx (dK D) (dR D) (dow D) x = true ↔ ∃ k, k < (flL D).length ∧ x = nI ((flL D).getD k 0) := by
  unfold vFx
  constructor
  · intro h
    split at h
    · cases h
    · next hx =>
      obtain ⟨j, hj, rfl⟩ := nI_of hx
      rw [nI_clamp hj] at h
      obtain ⟨k, a, b⟩ := flL_ix ((mem_flL hw).mpr h)
      exact ⟨k, a, by rw [b]⟩
  · rintro ⟨k, hk, rfl⟩
    have h1 := flL_lt hw hk
    rw [if_neg (nI_pos (by omega)), nI_clamp (by omega)]
    exact (mem_flL hw).mp (flL_get hk)
def fOf (x : Int32) : Option Nat := if x = -1 then none else some x.toNatClampNeg
theorem fOf_x {D : DD} (hw : WD D) {x : Int32} (h : vFx (dK D) (dR D) (dow D) x = true) : fOf x = some x.toNatClampNeg ∧ flI (fOf x) = x ∧ okW D (fOf x) ∧ x.toNatClampNeg < 212 ∧ x = nI x.toNatClampNeg := by
  obtain ⟨k, hk, rfl⟩ := (vFx_ix hw).mp h
  have h1 := flL_lt hw hk
  have e : fOf (nI ((flL D).getD k 0)) = some ((flL D).getD k 0) := by
    unfold fOf
    rw [if_neg (show ¬ nI ((flL D).getD k 0) = -1 from fun z => absurd (show nI ((flL D).getD k 0) < 0 from z ▸ (by decide)) (nI_pos (by omega))), nI_clamp (by omega)]
  rw [e, nI_clamp (by omega)]
  exact ⟨rfl, rfl, flL_ok hw hk, h1, rfl⟩
theorem fOf_n {D : DD} (hw : WD D) {x : Int32} (h : vFn (dK D) (dR D) (dow D) x = true) : flI (fOf x) = x ∧ okW D (fOf x) := by
  unfold vFn at h
  rw [Bool.or_eq_true, decide_eq_true_eq] at h
  rcases h with rfl | h
  · exact ⟨rfl, okW_no⟩
  · exact ⟨(fOf_x hw h).2.1, (fOf_x hw h).2.2.1⟩
set_option maxHeartbeats 8000000 in
theorem x_flawIndex {l : Launch} {G : GG} {h : AH} {nx : Nat} {Post : Option Value → AH → Nat → Prop} {d : Nat} {x : Int32} {D : DD} (hX : XC G ∧ TX l G) (hD : XD h d D) (hw : WD D) (hy : ∀ k, k < (flL D).length → x = nI ((flL D).getD k 0) → Post (some (.int (nI k))) h nx) (hn : vFx (dK D) (dR D) (dow D) x = false → Post (some (.int (-1))) h nx) (hP : True) : Runs l G i_X0_flawIndex 0 0 [.ref d, .int x] h nx Post := by
  obtain ⟨cc, g2, g3, g4, g5, g10, g13, g14, g16, g17, g18, g19, g27, g28, g1, g11, g12, e0, e6, e1, e2, e3, e4, e5, e10, e11, e12, e13, e14, e16, e17, e18, e19, e27, e28, p1, p2, p3, p4, p5, p6, p7, p8, p9⟩ := hD
  refine c_flawIndex hX e0 rfl rfl e19 (flL_len hw) ?_
  rcases fIx_c (x := x) p7 (flL D).length 0 (Nat.zero_add _) with ⟨k, _, a, b, c⟩ | ⟨a, b⟩
  · rw [b]; exact hy k a c
  · rw [a]
    refine hn ?_
    cases e : vFx (dK D) (dR D) (dow D) x with
    | false => rfl
    | true =>
      obtain ⟨k, hk, e2⟩ := (vFx_ix hw).mp e
      exact absurd e2 (b k (Nat.zero_le _) hk)
set_option maxHeartbeats 8000000 in
theorem x_isFlawOrNone {l : Launch} {G : GG} {h : AH} {nx : Nat} {Post : Option Value → AH → Nat → Prop} {d : Nat} {x : Int32} {D : DD} (hX : XC G ∧ TX l G) (hD : XD h d D) (hw : WD D) (hP : Post (some (.int (nI (vFn (dK D) (dR D) (dow D) x).toNat))) h nx) : Runs l G i_X0_isFlawOrNone 0 0 [.ref d, .int x] h nx Post := by
  refine en_X0_isFlawOrNone hX [] 30 rfl ?_
  by_cases e : x = -1
  · refine And.intro (fun _ => ?_) (fun cz => absurd (e) cz)
    rw [show vFn (dK D) (dR D) (dow D) x = true from by unfold vFn; rw [decide_eq_true e]; rfl] at hP
    exact And.intro rfl (hP)
  · refine And.intro (fun cz => absurd cz (e)) (fun _ => ?_)
    obtain ⟨cc, g2, g3, g4, g5, g10, g13, g14, g16, g17, g18, g19, g27, g28, g1, g11, g12, e0, _⟩ := id hD
    refine Exists.intro _ (And.intro e0 (Exists.intro 0 (Exists.intro 0 (And.intro (Nat.le_refl _) (And.intro (Nat.le_refl _) (x_flawIndex hX hD hw (fun k hk e2 => ?_) (fun e2 => ?_) True.intro))))))
    · have hl := flL_len hw
      refine And.intro (fun cz => absurd cz (nI_pos (by omega))) (fun _ => ?_)
      rw [show vFn (dK D) (dR D) (dow D) x = true from by unfold vFn; rw [(vFx_ix hw).mpr ⟨k, hk, e2⟩, Bool.or_true]] at hP
      exact And.intro rfl (hP)
    · refine And.intro (fun _ => ?_) (fun cz => by first | exact absurd cz (by decide) | exact absurd (by decide) cz)
      rw [show vFn (dK D) (dR D) (dow D) x = false from by unfold vFn; rw [e2, decide_eq_false e]; rfl] at hP
      exact And.intro rfl (hP)
def aFlaw (D : DD) (i : Int32) : Int32 := if 0 ≤ i ∧ i < nI (flL D).length then nI ((flL D).getD i.toNatClampNeg 0) else -1
set_option maxHeartbeats 8000000 in
theorem x_flawAt {l : Launch} {G : GG} {h : AH} {nx : Nat} {Post : Option Value → AH → Nat → Prop} {d : Nat} {i : Int32} {D : DD} (hX : XC G ∧ TX l G) (hD : XD h d D) (hw : WD D) (hP : Post (some (.int (aFlaw D i))) h nx) : Runs l G i_X0_flawAt 0 0 [.ref d, .int i] h nx Post := by
  obtain ⟨cc, g2, g3, g4, g5, g10, g13, g14, g16, g17, g18, g19, g27, g28, g1, g11, g12, e0, e6, e1, e2, e3, e4, e5, e10, e11, e12, e13, e14, e16, e17, e18, e19, e27, e28, p1, p2, p3, p4, p5, p6, p7, p8, p9⟩ := hD
  have hl := flL_len hw
  refine en_X0_flawAt hX [] 40 rfl ?_
  unfold aFlaw at hP
  by_cases c1 : i < 0
  · refine And.intro (fun _ => ?_) (fun cz => absurd (c1) cz)
    rw [if_neg (fun z => absurd c1 (Int32.not_lt.mpr z.1))] at hP
    exact And.intro rfl (hP)
  · refine And.intro (fun cz => absurd cz (c1)) (fun _ => ?_)
    refine Exists.intro _ (And.intro e0 (Exists.intro _ (And.intro rfl ?_)))
    obtain ⟨j, hj, rfl⟩ := nI_of c1
    by_cases c2 : j < (flL D).length
    · rw [if_pos ⟨nI_pos' hj, nI_lt c2 (by omega)⟩, nI_clamp hj, ← p7 j c2] at hP
      refine And.intro (fun cz => absurd cz (nI_ge (a := j) (b := (flL D).length) c2 (by omega))) (fun _ => ?_)
      refine And.intro (fun cz => absurd cz (nI_ge (a := j) (b := 132) (by omega) (by decide))) (fun _ => ?_)
      refine Exists.intro _ (And.intro e0 (Exists.intro _ (And.intro rfl ?_)))
      refine Exists.intro _ (Exists.intro _ (And.intro e19 (And.intro (vp_in_nI (by omega) (by decide)) ?_)))
      rw [nI_clamp hj]
      exact And.intro rfl (hP)
    · refine And.intro (fun _ => ?_) (fun cz => absurd (nI_le (a := (flL D).length) (b := j) (by omega) hj) cz)
      rw [if_neg (fun z => absurd z.2 (nI_nlt (by omega) hj))] at hP
      exact And.intro rfl (hP)
set_option maxHeartbeats 8000000 in
/-- the model's rows of a page, as isFlaw asks them -/
theorem m_isFlaw {l : Launch} {G : GG} {h : AH} {nx : Nat} {Post : Option Value → AH → Nat → Prop} {o d : Nat} {x : Int32} {D : DD} {fs : List Value} (hX : XC G ∧ TX l G) (hM : MA h o fs) (f19 : fs[19]? = some (.int (nI d))) (hD : MPg h o d D) (hw : WD D) (hP : Post (some (.int (nI (vFx (dK D) (dR D) (dow D) x).toNat))) h nx) : Runs l G i_X12_isFlaw 0 0 [.ref o, .int x] h nx Post := by
  obtain ⟨⟨_, gm, _, _, gR, _, _, _, _, _, e18, _, _, e10, _, _, _, _, _, pm, _, pR, _⟩, b2, _, _, _, _, _, hd⟩ := hD
  exact c_isFlawM hX hM f19 hd e18 pm hw.k b2 e10 pR hw.r hP
set_option maxHeartbeats 8000000 in
theorem m_isHut {l : Launch} {G : GG} {h : AH} {nx : Nat} {Post : Option Value → AH → Nat → Prop} {o d : Nat} {x y : Int32} {D : DD} {fs : List Value} (hX : XC G ∧ TX l G) (hM : MA h o fs) (f19 : fs[19]? = some (.int (nI d))) (hD : MPg h o d D) (hw : WD D) (hP : Post (some (.int (nI (vFn (dK D) (dR D) (dow D) x && vFn (dK D) (dR D) (dow D) y).toNat))) h nx) : Runs l G i_X12_isHut 0 0 [.ref o, .int x, .int y] h nx Post := by
  obtain ⟨⟨_, gm, _, _, gR, _, _, _, _, _, e18, _, _, e10, _, _, _, _, _, pm, _, pR, _⟩, b2, _, _, _, _, _, hd⟩ := hD
  exact c_isHutM hX hM f19 hd e18 pm hw.k b2 e10 pR hw.r hP
theorem vFx_nI {D : DD} {n : Nat} (hn : n < 2 ^ 31) : vFx (dK D) (dR D) (dow D) (nI n) = vFb (dK D) (dR D) (dow D) n := by
  unfold vFx
  rw [if_neg (nI_pos hn), nI_clamp hn]
/-- the flaws from f on -/
def flF (D : DD) (f : Nat) : List Nat := ((List.range 212).drop f).filter (vFb (dK D) (dR D) (dow D))
theorem flF_0 (D : DD) : flF D 0 = flL D := by
  unfold flF flL
  rw [List.drop_zero]
theorem flF_end (D : DD) : flF D 212 = [] := by
  unfold flF
  rw [List.drop_eq_nil_of_le (by rw [List.length_range]; exact Nat.le_refl _)]
  rfl
theorem flF_step {D : DD} {f : Nat} (hf : f < 212) : flF D f = if vFb (dK D) (dR D) (dow D) f = true then f :: flF D (f + 1) else flF D (f + 1) := by
  unfold flF
  rw [List.drop_eq_getElem_cons (by rw [List.length_range]; exact hf), List.getElem_range, List.filter_cons]
set_option maxHeartbeats 8000000 in
theorem m_flaw {l : Launch} {G : GG} {h : AH} {nx : Nat} {Post : Option Value → AH → Nat → Prop} {o d : Nat} {i : Int32} {D : DD} {fs : List Value} (hX : XC G ∧ TX l G) (hM : MA h o fs) (f19 : fs[19]? = some (.int (nI d))) (hD : MPg h o d D) (hw : WD D) (hP : Post (some (.int (aFlaw D i))) h nx) : Runs l G i_X12_flaw 0 0 [.ref o, .int i] h nx Post := by
  have hl := flL_len hw
  have loop : ∀ (k f n : Nat), f + k = 212 → (flL D).drop n = flF D f → n ≤ (flL D).length → (∀ j, j < n → i ≠ nI j) → Go l G 12 s_X12_flaw 0 0 Post 4 [(3, .int (nI f)), (2, .int (nI n)), (0, .ref o), (1, .int i)] [] h nx 0 0 := by
    intro k
    induction k with
    | zero =>
      intro f n hf h1 h2 h3
      have e : f = 212 := by omega
      subst e
      rw [flF_end, List.drop_eq_nil_iff] at h1
      refine Go.of hX.2 ck_X12_flaw [4] 20 ?_
      refine And.intro (fun _ => ?_) (fun cz => by first | exact absurd cz (by decide) | exact absurd (by decide) cz)
      unfold aFlaw at hP
      rw [if_neg (fun z => by
        obtain ⟨j, hj, rfl⟩ := nI_of (Int32.not_lt.mpr z.1)
        have := (nI_ltI hj (by omega)).mp z.2
        exact h3 j (by omega) rfl)] at hP
      exact And.intro rfl (hP)
    | succ k ih =>
      intro f n hf h1 h2 h3
      refine Go.of hX.2 ck_X12_flaw [4] 40 ?_
      refine And.intro (fun cz => absurd cz (nI_ge (a := f) (b := 212) (by omega) (by decide))) (fun _ => ?_)
      refine Exists.intro _ (And.intro hM.1 (Exists.intro 0 (Exists.intro 0 (And.intro (Nat.le_refl _) (And.intro (Nat.le_refl _) (m_isFlaw hX hM f19 hD hw ?_))))))
      rw [vFx_nI (by omega)]
      rw [flF_step (by omega)] at h1
      by_cases c1 : vFb (dK D) (dR D) (dow D) f = true
      · rw [if_pos c1] at h1
        rw [c1]
        refine And.intro (fun _ => ?_) (fun cz => by first | exact absurd cz (by decide) | exact absurd (by decide) cz)
        have hn : n < (flL D).length := by
          by_cases z : n < (flL D).length
          · exact z
          · rw [List.drop_eq_nil_iff.mpr (by omega)] at h1; cases h1
        rw [List.drop_eq_getElem_cons hn] at h1
        have h4 := (List.cons.inj h1).1
        have h5 := (List.cons.inj h1).2
        by_cases c2 : nI n = i
        · refine And.intro (fun cz => absurd cz (fun z => z c2)) (fun _ => ?_)
          unfold aFlaw at hP
          rw [← c2, if_pos ⟨nI_pos' (by omega), nI_lt hn (by omega)⟩, nI_clamp (by omega), gD hn, h4] at hP
          exact And.intro rfl (hP)
        · refine And.intro (fun _ => ?_) (fun cz => absurd cz (c2))
          refine go_loc (lv' := [(3, .int (nI f + 1)), (2, .int (nI n + 1)), (0, .ref o), (1, .int i)]) ⟨rfl, rfl, rfl, rfl, trivial⟩ ?_
          rw [← nI_succ, ← nI_succ]
          exact ih (f + 1) (n + 1) (by omega) h5 (by omega) (fun j hj => by
            by_cases e : j = n
            · rw [e]; exact fun z => c2 z.symm
            · exact h3 j (by omega))
      · rw [if_neg c1] at h1
        rw [Bool.not_eq_true] at c1
        rw [c1]
        refine And.intro (fun cz => by first | exact absurd cz (by decide) | exact absurd (by decide) cz) (fun _ => ?_)
        refine go_loc (lv' := [(3, .int (nI f + 1)), (2, .int (nI n)), (0, .ref o), (1, .int i)]) ⟨rfl, rfl, rfl, rfl, trivial⟩ ?_
        rw [← nI_succ]
        exact ih (f + 1) n (by omega) h1 h2 h3
  refine en_X12_flaw hX [4] 20 rfl ?_
  exact go_loc (lv' := [(3, .int (nI 0)), (2, .int (nI 0)), (0, .ref o), (1, .int i)]) ⟨rfl, rfl, rfl, rfl, trivial⟩ (loop 212 0 0 rfl (by rw [flF_0, List.drop_zero]) (Nat.zero_le _) (fun j hj => absurd hj (Nat.not_lt_zero j)))
set_option maxHeartbeats 8000000 in
theorem m_flawsThere {l : Launch} {G : GG} {h : AH} {nx : Nat} {Post : Option Value → AH → Nat → Prop} {o d : Nat} {D : DD} {fs : List Value} (hX : XC G ∧ TX l G) (hM : MA h o fs) (f19 : fs[19]? = some (.int (nI d))) (hD : MPg h o d D) (hw : WD D) (hP : Post (some (.int (nI (flL D).length))) h nx) : Runs l G i_X12_flawsThere 0 0 [.ref o] h nx Post := by
  have hl := flL_len hw
  have loop : ∀ (k f n : Nat), f + k = 212 → n + (flF D f).length = (flL D).length → Go l G 12 s_X12_flawsThere 0 0 Post 4 [(2, .int (nI f)), (1, .int (nI n)), (0, .ref o)] [] h nx 0 0 := by
    intro k
    induction k with
    | zero =>
      intro f n hf h1
      have e : f = 212 := by omega
      subst e
      rw [flF_end] at h1
      have h2 : n = (flL D).length := h1
      subst h2
      refine Go.of hX.2 ck_X12_flawsThere [4] 20 ?_
      refine And.intro (fun _ => ?_) (fun cz => by first | exact absurd cz (by decide) | exact absurd (by decide) cz)
      exact And.intro rfl (hP)
    | succ k ih =>
      intro f n hf h1
      refine Go.of hX.2 ck_X12_flawsThere [4] 40 ?_
      refine And.intro (fun cz => absurd cz (nI_ge (a := f) (b := 212) (by omega) (by decide))) (fun _ => ?_)
      refine Exists.intro _ (And.intro hM.1 (Exists.intro 0 (Exists.intro 0 (And.intro (Nat.le_refl _) (And.intro (Nat.le_refl _) (m_isFlaw hX hM f19 hD hw ?_))))))
      rw [vFx_nI (by omega)]
      rw [flF_step (by omega)] at h1
      by_cases c1 : vFb (dK D) (dR D) (dow D) f = true
      · rw [if_pos c1, List.length_cons] at h1
        rw [c1]
        refine And.intro (fun cz => by first | exact absurd cz (by decide) | exact absurd (by decide) cz) (fun _ => ?_)
        refine go_loc (lv' := [(2, .int (nI f + 1)), (1, .int (nI n + 1)), (0, .ref o)]) ⟨rfl, rfl, rfl, trivial⟩ ?_
        rw [← nI_succ, ← nI_succ]
        exact ih (f + 1) (n + 1) (by omega) (by omega)
      · rw [if_neg c1] at h1
        rw [Bool.not_eq_true] at c1
        rw [c1]
        refine And.intro (fun _ => ?_) (fun cz => by first | exact absurd cz (by decide) | exact absurd (by decide) cz)
        refine go_loc (lv' := [(2, .int (nI f + 1)), (1, .int (nI n)), (0, .ref o)]) ⟨rfl, rfl, rfl, trivial⟩ ?_
        rw [← nI_succ]
        exact ih (f + 1) n (by omega) h1
  refine en_X12_flawsThere hX [4] 20 rfl ?_
  exact go_loc (lv' := [(2, .int (nI 0)), (1, .int (nI 0)), (0, .ref o)]) ⟨rfl, rfl, rfl, trivial⟩ (loop 212 0 0 rfl (by rw [flF_0, Nat.zero_add]))
