/-! the model reads: what is wrong; codes; names told -/
theorem SHm.row1 {h : AH} {o j : Nat} {e : AE} (hS : SHm h o) (hr : rowS (some e) (tyL.getD j (0, 0))) : SHm (uph h (o + 1 + j) e) o := hS.upd (fun i hi => by
  by_cases e2 : i = j
  · right
    rw [e2, uph_eq]
    exact hr
  · left
    exact uph_ne (by omega))
theorem PRs.w {h : AH} {o t op cd sg wa wg wo k : Nat} {wp q : Int32} {fs : List Value} (P : PRs h o fs ((t, op, cd, sg), (wa, wg, wo, wp))) : PRs (uph (uph h o (.inr (12, fs.set 15 (.int (nI k))))) o (.inr (12, (fs.set 15 (.int (nI k))).set 16 (.int q)))) o ((fs.set 15 (.int (nI k))).set 16 (.int q)) ((t, op, cd, sg), (wa, wg, k, q)) := by
  obtain ⟨a, b, c13, c11, c12, c41, c43, c45, c49, c15, c16⟩ := P
  have a1 : MA (uph h o (.inr (12, fs.set 15 (.int (nI k))))) o (fs.set 15 (.int (nI k))) := a.pst (by omega)
  exact ⟨a1.pst (by omega), b.obj.obj, by rw [get_set_ne (by decide), get_set_ne (by decide)]; exact c13, by rw [get_set_ne (by decide), get_set_ne (by decide)]; exact c11, by rw [get_set_ne (by decide), get_set_ne (by decide)]; exact c12, by rw [get_set_ne (by decide), get_set_ne (by decide)]; exact c41, by rw [get_set_ne (by decide), get_set_ne (by decide)]; exact c43, by rw [get_set_ne (by decide), get_set_ne (by decide)]; exact c45, by rw [get_set_ne (by decide), get_set_ne (by decide)]; exact c49, by rw [get_set_ne (by decide)]; exact get_set (by rw [a.2.1]; decide), get_set (by rw [a1.2.1]; decide)⟩
theorem PRs.c {h : AH} {o t op cd sg wa wg wo c2 : Nat} {wp : Int32} {fs : List Value} {e : AE} (P : PRs h o fs ((t, op, cd, sg), (wa, wg, wo, wp))) (hr : rowS (some e) (tyL.getD 27 (0, 0))) : PRs (uph (uph h (o + 1 + 27) e) o (.inr (12, fs.set 41 (.int (nI c2))))) o (fs.set 41 (.int (nI c2))) ((t, op, c2, sg), (wa, wg, wo, wp)) := by
  obtain ⟨a, b, c13, c11, c12, c41, c43, c45, c49, c15, c16⟩ := P
  have a1 : MA (uph h (o + 1 + 27) e) o fs := a.keep (uph_ne (by omega))
  exact ⟨a1.pst (by omega), (b.row1 hr).obj, by rw [get_set_ne (by decide)]; exact c13, by rw [get_set_ne (by decide)]; exact c11, by rw [get_set_ne (by decide)]; exact c12, get_set (by rw [a.2.1]; decide), by rw [get_set_ne (by decide)]; exact c43, by rw [get_set_ne (by decide)]; exact c45, by rw [get_set_ne (by decide)]; exact c49, by rw [get_set_ne (by decide)]; exact c15, by rw [get_set_ne (by decide)]; exact c16⟩
theorem tokM.ag {h h' : AH} {o n m : Nat} {u : Nat → Nat} (H : tokM h o u n m) (hs : ∀ x, o + 1 + 2 ≤ x → x < o + 1 + 6 → h' x = h x) : tokM h' o u n m := by
  obtain ⟨g2, g3, g4, g5, a2, a3, a4, a5, p⟩ := H
  exact ⟨g2, g3, g4, g5, (hs _ (by omega) (by omega)).trans a2, (hs _ (by omega) (by omega)).trans a3, (hs _ (by omega) (by omega)).trans a4, (hs _ (by omega) (by omega)).trans a5, p⟩
theorem mkK_inj : ∀ a, a < 19 → ∀ b, b < 19 → mkK a = mkK b → a = b := by decide +kernel
set_option maxHeartbeats 8000000 in
theorem m_wrong {l : Launch} {G : GG} {h : AH} {nx : Nat} {Post : Option Value → AH → Nat → Prop} {o k j n m t op cd sg wa wg wo : Nat} {wp : Int32} {u : Nat → Nat} {fs : List Value} (hX : XC G ∧ TX l G) (hP0 : PRs h o fs ((t, op, cd, sg), (wa, wg, wo, wp))) (hT : tokM h o u n m) (hj : j < m) (hm : m ≤ 401) (hn : n ≤ 2000) (hw : wo ≤ 5) (hC : wo = 0 ∨ ∃ q, wp = nI q ∧ q ≤ 2000 ∧ q ≠ plN u n j) (hA : (wo = 0 ∨ ∃ q, wp = nI q ∧ q ≤ 2000 ∧ plN u n j < q) → ∀ (h1 : AH) (fs1 : List Value), PRs h1 o fs1 ((t, op, cd, sg), (wa, wg, k, nI (plN u n j))) → pfF fs fs1 → (∀ x, x ≠ o → h1 x = h x) → Post none h1 nx) (hP : (wo ≠ 0 ∧ ∃ q, wp = nI q ∧ q ≤ 2000 ∧ q < plN u n j) → Post none h nx) : Runs l G i_X12_wrong 0 0 [.ref o, .int (nI k), .int (nI j)] h nx Post := by
  obtain ⟨g2, g3, g4, g5, a2, a3, a4, a5, p⟩ := hT
  obtain ⟨hM, hS, c13, c11, c12, c41, c43, c45, c49, c15, c16⟩ := id hP0
  have hpl := plN_le u n j
  have c15 : fs[15]? = some (.int (nI wo)) := c15
  have c16 : fs[16]? = some (.int wp) := c16
  have hM1 : MA (uph h o (.inr (12, fs.set 15 (.int (nI k))))) o (fs.set 15 (.int (nI k))) := hM.pst (by omega)
  have at46 : (wo = 0 ∨ ∃ q, wp = nI q ∧ q ≤ 2000 ∧ plN u n j < q) → Go l G 12 s_X12_wrong 0 0 Post 46 [(3, .int (nI (plN u n j))), (0, .ref o), (1, .int (nI k)), (2, .int (nI j))] [] h nx 0 0 := by
    intro hh
    refine Go.of hX.2 ck_X12_wrong [] 20 ?_
    refine Exists.intro _ (And.intro hM.1 (And.intro (by rw [hM.2.1]; decide) (And.intro rfl (And.intro rfl ?_))))
    refine Exists.intro _ (And.intro hM1.1 (And.intro (by rw [hM1.2.1]; decide) (And.intro rfl (And.intro rfl ?_))))
    exact hA hh _ _ hP0.w (((pfF.rf fs).st (by omega)).st (by omega)) (fun x hx => (uph_ne hx).trans (uph_ne hx))
  refine en_X12_wrong hX [46] 60 rfl ?_
  refine Exists.intro _ (And.intro hM.1 (Exists.intro _ (And.intro (hM.2.2 3 (by decide)) ?_)))
  refine Exists.intro _ (Exists.intro _ (And.intro a3 (And.intro (vp_in_nI (show j < 403 by omega) (by decide)) ?_)))
  rw [nI_clamp (show j < 2 ^ 31 by omega), (p _ hj).2.1]
  refine Exists.intro _ (And.intro hM.1 (Exists.intro _ (And.intro c13 ?_)))
  refine And.intro (fun cz => by first | exact absurd cz (by decide) | exact absurd (by decide) cz) (fun _ => ?_)
  refine Exists.intro _ (And.intro hM.1 (Exists.intro _ (And.intro c15 ?_)))
  by_cases c0 : wo = 0
  · refine And.intro (fun _ => ?_) (fun cz => absurd (show nI wo = 0 from by rw [c0]; rfl) cz)
    exact go_loc (lv' := [(3, .int (nI (plN u n j))), (0, .ref o), (1, .int (nI k)), (2, .int (nI j))]) ⟨rfl, rfl, rfl, rfl, trivial⟩ (at46 (Or.inl c0))
  · refine And.intro (fun cz => absurd cz (fun z => c0 ((nI_eq (a := wo) (b := 0) (by omega) (by omega)).mp z))) (fun _ => ?_)
    obtain ⟨q, e, hq, hne⟩ := hC.resolve_left c0
    subst e
    refine Exists.intro _ (And.intro hM.1 (Exists.intro _ (And.intro c16 ?_)))
    by_cases c1 : q < plN u n j
    · refine And.intro (fun _ => ?_) (fun cz => absurd (nI_lt c1 (by omega)) cz)
      exact hP ⟨c0, q, rfl, hq, c1⟩
    · refine And.intro (fun cz => absurd cz (nI_nlt (a := q) (b := plN u n j) (by omega) (by omega))) (fun _ => ?_)
      refine Exists.intro _ (And.intro hM.1 (Exists.intro _ (And.intro c16 ?_)))
      refine And.intro (fun _ => ?_) (fun cz => absurd cz (fun z => hne ((nI_eq (a := plN u n j) (b := q) (by omega) (by omega)).mp z).symm))
      exact go_loc (lv' := [(3, .int (nI (plN u n j))), (0, .ref o), (1, .int (nI k)), (2, .int (nI j))]) ⟨rfl, rfl, rfl, rfl, trivial⟩ (at46 (Or.inr ⟨q, rfl, hq, Nat.lt_of_le_of_ne (Nat.le_of_not_lt c1) (fun z => hne z.symm)⟩))
set_option maxHeartbeats 8000000 in
theorem m_emit {l : Launch} {G : GG} {h : AH} {nx : Nat} {Post : Option Value → AH → Nat → Prop} {o k t op cd sg wa wg wo : Nat} {wp : Int32} {g : Nat → Int32} {fs : List Value} (hX : XC G ∧ TX l G) (hP0 : PRs h o fs ((t, op, cd, sg), (wa, wg, wo, wp))) (h27 : h (o + 1 + 27) = some (.inl (0, 2100, .inl g))) (hcd : cd < 2100) (hP : ∀ (h1 : AH) (fs1 : List Value), PRs h1 o fs1 ((t, op, cd + 1, sg), (wa, wg, wo, wp)) → pfF fs fs1 → h1 (o + 1 + 27) = some (.inl (0, 2100, .inl (upd g cd (nI k)))) → (∀ x, x ≠ o → x ≠ o + 1 + 27 → h1 x = h x) → Post none h1 nx) : Runs l G i_X12_emit 0 0 [.ref o, .int (nI k)] h nx Post := by
  obtain ⟨hM, hS, c13, c11, c12, c41, _⟩ := id hP0
  have c41 : fs[41]? = some (.int (nI cd)) := c41
  refine en_X12_emit hX [] 30 rfl ?_
  refine Exists.intro _ (And.intro hM.1 (Exists.intro _ (And.intro c13 ?_)))
  refine And.intro (fun _ => ?_) (fun cz => by first | exact absurd cz (by decide) | exact absurd (by decide) cz)
  refine Exists.intro _ (And.intro hM.1 (Exists.intro _ (And.intro (hM.2.2 27 (by decide)) ?_)))
  refine Exists.intro _ (And.intro hM.1 (Exists.intro _ (And.intro c41 ?_)))
  refine Exists.intro _ (Exists.intro _ (And.intro h27 (And.intro (vp_in_nI hcd (by decide)) ?_)))
  rw [nI_clamp (show cd < 2 ^ 31 by omega)]
  have h1o : uph h (o + 1 + 27) (.inl (0, 2100, .inl (upd g cd (nI k)))) o = some (.inr (12, fs)) := (uph_ne (by omega)).trans hM.1
  refine Exists.intro _ (And.intro h1o (Exists.intro _ (And.intro c41 ?_)))
  refine Exists.intro _ (And.intro h1o (And.intro (by rw [hM.2.1]; decide) (And.intro rfl (And.intro rfl ?_))))
  rw [show nI cd + 1 = nI (cd + 1) from (nI_succ cd).symm]
  exact hP _ _ (hP0.c (rowS_i (by decide) rfl ⟨_, rfl⟩)) ((pfF.rf fs).st (by omega)) ((uph_ne (by omega)).trans uph_eq) (fun x h1 h2 => (uph_ne h1).trans (uph_ne h2))
set_option maxHeartbeats 8000000 in
theorem m_emitF {l : Launch} {G : GG} {h : AH} {nx : Nat} {Post : Option Value → AH → Nat → Prop} {o f q : Nat} {k : Int32} {fs : List Value} (hX : XC G ∧ TX l G) (hF : PFl h o fs f q) (hP : Post none h nx) : Runs l G i_X12_emit 0 0 [.ref o, .int k] h nx Post := by
  obtain ⟨hM, hS, c13, c14, f0, f5, _⟩ := hF
  refine en_X12_emit hX [] 40 rfl ?_
  refine Exists.intro _ (And.intro hM.1 (Exists.intro _ (And.intro c13 ?_)))
  refine And.intro (fun cz => absurd cz (show ¬ nI f ≤ 0 from nI_ge (a := 0) f0 (by omega))) (fun _ => ?_)
  exact hP
set_option maxHeartbeats 8000000 in
theorem m_waitsOn {l : Launch} {G : GG} {h : AH} {nx : Nat} {Post : Option Value → AH → Nat → Prop} {o k wg : Nat} {g : Nat → Int32} {fs : List Value} (hX : XC G ∧ TX l G) (hM : MA h o fs) (c49 : fs[49]? = some (.int (nI wg))) (h31 : h (o + 1 + 31) = some (.inl (0, 420, .inl g))) (hwg : wg ≤ 420) (hP : Post (some (.int (nI (decide (0 < wg) && decide (g (wg - 1) = nI k)).toNat))) h nx) : Runs l G i_X12_waitsOn 0 0 [.ref o, .int (nI k)] h nx Post := by
  refine en_X12_waitsOn hX [] 30 rfl ?_
  refine Exists.intro _ (And.intro hM.1 (Exists.intro _ (And.intro c49 ?_)))
  by_cases c0 : wg = 0
  · subst c0
    refine And.intro (fun _ => ?_) (fun cz => by first | exact absurd cz (by decide) | exact absurd (by decide) cz)
    exact And.intro rfl (hP)
  · obtain ⟨v, rfl⟩ : ∃ v, wg = v + 1 := ⟨wg - 1, by omega⟩
    rw [decide_eq_true (show 0 < v + 1 by omega), Bool.true_and, Nat.add_sub_cancel] at hP
    refine And.intro (fun cz => absurd cz (show ¬ nI (v + 1) ≤ 0 from nI_ge (a := 0) (by omega) (by omega))) (fun _ => ?_)
    refine Exists.intro _ (And.intro hM.1 (Exists.intro _ (And.intro (hM.2.2 31 (by decide)) ?_)))
    refine Exists.intro _ (And.intro hM.1 (Exists.intro _ (And.intro c49 ?_)))
    have ei : nI (v + 1) - 1 = nI v := by rw [nI_succ, Int32.add_sub_cancel]
    refine Exists.intro _ (Exists.intro _ (And.intro h31 (And.intro (by rw [ei]; exact vp_in_nI (show v < 420 by omega) (by decide)) ?_)))
    rw [ei, nI_clamp (show v < 2 ^ 31 by omega)]
    by_cases c : g v = nI k
    · rw [decide_eq_true c] at hP
      refine And.intro (fun cz => absurd (c) cz) (fun _ => ?_)
      exact And.intro rfl (hP)
    · rw [decide_eq_false c] at hP
      refine And.intro (fun _ => ?_) (fun cz => absurd cz (c))
      exact And.intro rfl (hP)
/-- the names on a page -/
def NMp (h : AH) (o : Nat) (fs : List Value) (d cI cR cL : Nat) (nmI nmR nmL : Nat → Int64) : Prop := fs[20]? = some (.int (nI d)) ∧ d < 5 ∧ (∃ (gc : Nat → Int32) (gn : Nat → Int64), h (o + 1 + 7) = some (.inl (0, 5, .inl gc)) ∧ h (o + 1 + 9) = some (.inl (1, 25, .inr (.inl gn))) ∧ gc d = nI cI ∧ cI ≤ 5 ∧ ∀ k, k < cI → gn (5 * d + k) = nmI k) ∧ (∃ (gc : Nat → Int32) (gn : Nat → Int64), h (o + 1 + 10) = some (.inl (0, 5, .inl gc)) ∧ h (o + 1 + 12) = some (.inl (1, 30, .inr (.inl gn))) ∧ gc d = nI cR ∧ cR ≤ 6 ∧ ∀ k, k < cR → gn (6 * d + k) = nmR k) ∧ ∃ (gc : Nat → Int32) (gn : Nat → Int64), h (o + 1 + 13) = some (.inl (0, 5, .inl gc)) ∧ h (o + 1 + 15) = some (.inl (1, 25, .inr (.inl gn))) ∧ gc d = nI cL ∧ cL ≤ 5 ∧ ∀ k, k < cL → gn (5 * d + k) = nmL k
theorem NMp.ag {h h' : AH} {o d cI cR cL : Nat} {fs fs' : List Value} {nmI nmR nmL : Nat → Int64} (H : NMp h o fs d cI cR cL nmI nmR nmL) (e20 : fs'[20]? = fs[20]?) (hs : ∀ j, 7 ≤ j → j < 16 → h' (o + 1 + j) = h (o + 1 + j)) : NMp h' o fs' d cI cR cL nmI nmR nmL := by
  obtain ⟨a, b, ⟨g1, n1, x1, x2, x3⟩, ⟨g2, n2, y1, y2, y3⟩, g3, n3, z1, z2, z3⟩ := H
  exact ⟨e20.trans a, b, ⟨g1, n1, (hs 7 (by decide) (by decide)).trans x1, (hs 9 (by decide) (by decide)).trans x2, x3⟩, ⟨g2, n2, (hs 10 (by decide) (by decide)).trans y1, (hs 12 (by decide) (by decide)).trans y2, y3⟩, g3, n3, (hs 13 (by decide) (by decide)).trans z1, (hs 15 (by decide) (by decide)).trans z2, z3⟩
set_option maxHeartbeats 8000000 in
theorem m_inNm {l : Launch} {G : GG} {h : AH} {nx : Nat} {Post : Option Value → AH → Nat → Prop} {o d cI cR cL : Nat} {x : Int64} {nmI nmR nmL : Nat → Int64} {fs : List Value} (hX : XC G ∧ TX l G) (hM : MA h o fs) (hN : NMp h o fs d cI cR cL nmI nmR nmL) (hP : Post (some (.int (fdN nmI x cI))) h nx) : Runs l G i_X12_inputNamed 0 0 [.ref o, .long x] h nx Post := by
  obtain ⟨a, b, ⟨g1, n1, x1, x2, x3, x4, x5⟩, _⟩ := hN
  exact m_inputNamed hX hM a b x1 x2 x3 x4 x5 hP
set_option maxHeartbeats 8000000 in
theorem m_reNm {l : Launch} {G : GG} {h : AH} {nx : Nat} {Post : Option Value → AH → Nat → Prop} {o d cI cR cL : Nat} {x : Int64} {nmI nmR nmL : Nat → Int64} {fs : List Value} (hX : XC G ∧ TX l G) (hM : MA h o fs) (hN : NMp h o fs d cI cR cL nmI nmR nmL) (hP : Post (some (.int (fdN nmR x cR))) h nx) : Runs l G i_X12_relayNamed 0 0 [.ref o, .long x] h nx Post := by
  obtain ⟨a, b, _, ⟨g1, n1, x1, x2, x3, x4, x5⟩, _⟩ := hN
  exact m_relayNamed hX hM a b x1 x2 x3 x4 x5 hP
set_option maxHeartbeats 8000000 in
theorem m_laNm {l : Launch} {G : GG} {h : AH} {nx : Nat} {Post : Option Value → AH → Nat → Prop} {o d cI cR cL : Nat} {x : Int64} {nmI nmR nmL : Nat → Int64} {fs : List Value} (hX : XC G ∧ TX l G) (hM : MA h o fs) (hN : NMp h o fs d cI cR cL nmI nmR nmL) (hP : Post (some (.int (fdN nmL x cL))) h nx) : Runs l G i_X12_lampNamed 0 0 [.ref o, .long x] h nx Post := by
  obtain ⟨a, b, _, _, g1, n1, x1, x2, x3, x4, x5⟩ := hN
  exact m_lampNamed hX hM a b x1 x2 x3 x4 x5 hP
def wUp (wo : Nat) (wp : Int32) (k q : Nat) : Nat × Int32 := if wo = 0 then (k, nI q) else (wo, wp)
def twN (nmI nmR nmL : Nat → Int64) (cI cR cL : Nat) (x : Int64) : Prop := fdN nmI x cI ≠ -1 ∨ fdN nmR x cR ≠ -1 ∨ fdN nmL x cL ≠ -1
set_option maxHeartbeats 8000000 in
theorem m_named {l : Launch} {G : GG} {h : AH} {nx : Nat} {Post : Option Value → AH → Nat → Prop} {o d cI cR cL n m t op cd sg wa wg wo : Nat} {wp : Int32} {u : Nat → Nat} {nmI nmR nmL : Nat → Int64} {fs : List Value} (hX : XC G ∧ TX l G) (hP0 : PRs h o fs ((t, op, cd, sg), (wa, wg, wo, wp))) (hT : tokM h o u n m) (hu : ∀ i, u i < 256) (ht : t < m) (hm : m ≤ 401) (hn : n ≤ 2000) (hN : NMp h o fs d cI cR cL nmI nmR nmL) (hw : wo ≤ 5) (hC : wo = 0 ∨ ∃ q, wp = nI q ∧ q ≤ 2000 ∧ q < plN u n t) (hB : ∀ (f : Nat) (h1 : AH) (fs1 : List Value) (v : Int64), (kdN u n t ≠ 2 ∧ f = 1) ∨ (kdN u n t = 2 ∧ t = 400 ∧ f = 2) → PFl h1 o fs1 f (plN u n t) → pfF fs fs1 → (∀ x, x ≠ o → h1 x = h x) → Post (some (.long v)) h1 nx) (hW : kdN u n t = 2 → t < 400 → twN nmI nmR nmL cI cR cL (vaN u n t) → ∀ (h1 : AH) (fs1 : List Value), PRs h1 o fs1 ((t + 1, op, cd, sg), (wa, wg, (wUp wo wp 3 (plN u n t)).1, (wUp wo wp 3 (plN u n t)).2)) → pfF fs fs1 → (∀ x, x ≠ o → h1 x = h x) → Post (some (.long (vaN u n t))) h1 nx) (hP : kdN u n t = 2 → t < 400 → ¬ twN nmI nmR nmL cI cR cL (vaN u n t) → ∀ (h1 : AH) (fs1 : List Value), PRs h1 o fs1 ((t + 1, op, cd, sg), (wa, wg, wo, wp)) → pfF fs fs1 → (∀ x, x ≠ o → h1 x = h x) → Post (some (.long (vaN u n t))) h1 nx) : Runs l G i_X12_named 0 0 [.ref o] h nx Post := by
  have hT0 := hT
  obtain ⟨g2, g3, g4, g5, a2, a3, a4, a5, p⟩ := hT
  have c11 : fs[11]? = some (.int (nI t)) := hP0.2.2.2.1
  have hk2 : mkK (kdN u n t) = 1 ↔ kdN u n t = 2 := ⟨fun z => mkK_inj _ (kdN_lt hu n t) 2 (by decide) z, fun z => by rw [z]; rfl⟩
  refine en_X12_named hX [51] 60 rfl ?_
  refine Exists.intro _ (And.intro hP0.1.1 (Exists.intro _ (And.intro c11 ?_)))
  refine Exists.intro _ (And.intro hP0.1.1 (Exists.intro 0 (Exists.intro 0 (And.intro (Nat.le_refl _) (And.intro (Nat.le_refl _) (m_must (k := 1) hX hP0 hT0 hu ht hm (by decide) (fun f h1 fs1 z0 z1 z2 z3 => ?_) (fun z0 tl h1 fs1 z1 z2 z3 => ?_)))))))
  · refine Exists.intro _ (And.intro z1.1.1 (Exists.intro _ (And.intro (z1.1.2.2 5 (by decide)) ?_)))
    refine Exists.intro _ (Exists.intro _ (And.intro ((z3 _ (by omega)).trans a5) (And.intro (vp_in_nI (show t < 403 by omega) (by decide)) ?_)))
    refine Exists.intro _ (And.intro z1.1.1 (Exists.intro _ (And.intro z1.2.2.1 ?_)))
    have fb := z1.2.2.2.2
    refine And.intro (fun _ => ?_) (fun cz => absurd cz (fun z => by have := (nI_eq (a := f) (b := 0) (by omega) (by omega)).mp z; omega))
    have zz0 : (kdN u n t ≠ 2 ∧ f = 1) ∨ (kdN u n t = 2 ∧ t = 400 ∧ f = 2) := by
      rcases z0 with ⟨x1, x2⟩ | ⟨x1, x2⟩
      · exact Or.inl ⟨fun z => x1 (hk2.mpr z), x2⟩
      · exact Or.inr ⟨hk2.mp x1, x2⟩
    exact hB f h1 fs1 _ zz0 z1 z2 z3
  · have k2 := hk2.mp z0
    have hT1 : tokM h1 o u n m := hT0.ag (fun x x1 x2 => z3 x (by omega))
    have hN1 : NMp h1 o fs1 d cI cR cL nmI nmR nmL := hN.ag (z2 20 (by omega)) (fun j _ _ => z3 _ (by omega))
    refine Exists.intro _ (And.intro z1.1.1 (Exists.intro _ (And.intro (z1.1.2.2 5 (by decide)) ?_)))
    refine Exists.intro _ (Exists.intro _ (And.intro ((z3 _ (by omega)).trans a5) (And.intro (vp_in_nI (show t < 403 by omega) (by decide)) ?_)))
    rw [nI_clamp (show t < 2 ^ 31 by omega), (p t ht).2.2.2 k2]
    refine Exists.intro _ (And.intro z1.1.1 (Exists.intro _ (And.intro z1.2.2.1 ?_)))
    refine And.intro (fun cz => by first | exact absurd cz (by decide) | exact absurd (by decide) cz) (fun _ => ?_)
    have tw : twN nmI nmR nmL cI cR cL (vaN u n t) → Go l G 12 s_X12_named 0 0 Post 51 [(2, .long (vaN u n t)), (1, .int (nI t)), (0, .ref o)] [] h1 nx 0 0 := by
      intro htw
      refine Go.of hX.2 ck_X12_named [] 20 ?_
      refine Exists.intro _ (And.intro z1.1.1 (Exists.intro 0 (Exists.intro 0 (And.intro (Nat.le_refl _) (And.intro (Nat.le_refl _) (m_wrong (k := 3) (j := t) hX z1 hT1 ht hm hn hw (hC.imp id (fun ⟨q, e, e2, e3⟩ => ⟨q, e, e2, by omega⟩)) (fun hh h2 fs2 y1 y2 y3 => ?_) (fun hh => ?_)))))))
      · have w0 : wo = 0 := by
          rcases hC with z | ⟨q, e, e2, e3⟩
          · exact z
          · rcases hh with z | ⟨q2, x, x2, x3⟩
            · exact z
            · have := (nI_eq (by omega) (by omega)).mp (e.symm.trans x)
              omega
        have ew : wUp wo wp 3 (plN u n t) = (3, nI (plN u n t)) := if_pos w0
        exact (hW k2 tl htw h2 fs2 (by rw [ew]; exact y1) (z2.tr y2) (fun x hx => (y3 x hx).trans (z3 x hx)))
      · have ew : wUp wo wp 3 (plN u n t) = (wo, wp) := if_neg hh.1
        exact (hW k2 tl htw h1 fs1 (by rw [ew]; exact z1) z2 z3)
    refine Exists.intro _ (And.intro z1.1.1 (Exists.intro 0 (Exists.intro 0 (And.intro (Nat.le_refl _) (And.intro (Nat.le_refl _) (m_inNm hX z1.1 hN1 ?_))))))
    by_cases c1 : fdN nmI (vaN u n t) cI = -1
    · refine And.intro (fun cz => absurd (c1) cz) (fun _ => ?_)
      refine Exists.intro _ (And.intro z1.1.1 (Exists.intro 0 (Exists.intro 0 (And.intro (Nat.le_refl _) (And.intro (Nat.le_refl _) (m_reNm hX z1.1 hN1 ?_))))))
      by_cases c2 : fdN nmR (vaN u n t) cR = -1
      · refine And.intro (fun cz => absurd (c2) cz) (fun _ => ?_)
        refine Exists.intro _ (And.intro z1.1.1 (Exists.intro 0 (Exists.intro 0 (And.intro (Nat.le_refl _) (And.intro (Nat.le_refl _) (m_laNm hX z1.1 hN1 ?_))))))
        by_cases c3 : fdN nmL (vaN u n t) cL = -1
        · refine And.intro (fun _ => ?_) (fun cz => absurd (c3) cz)
          have nt : ¬ twN nmI nmR nmL cI cR cL (vaN u n t) := fun z => z.elim (fun z => z c1) (fun z => z.elim (fun z => z c2) (fun z => z c3))
          exact hP k2 tl nt h1 fs1 z1 z2 z3
        · refine And.intro (fun cz => absurd cz (c3)) (fun _ => ?_)
          exact go_loc (lv' := [(2, .long (vaN u n t)), (1, .int (nI t)), (0, .ref o)]) ⟨rfl, rfl, rfl, trivial⟩ (tw (Or.inr (Or.inr c3)))
      · refine And.intro (fun _ => ?_) (fun cz => absurd cz (c2))
        exact go_loc (lv' := [(2, .long (vaN u n t)), (1, .int (nI t)), (0, .ref o)]) ⟨rfl, rfl, rfl, trivial⟩ (tw (Or.inr (Or.inl c2)))
    · refine And.intro (fun _ => ?_) (fun cz => absurd cz (c1))
      exact go_loc (lv' := [(2, .long (vaN u n t)), (1, .int (nI t)), (0, .ref o)]) ⟨rfl, rfl, rfl, trivial⟩ (tw (Or.inl c1))
