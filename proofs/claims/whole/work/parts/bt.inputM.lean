/-! the model reads: an input is told -/
theorem PRs.row {h : AH} {o j : Nat} {fs : List Value} {s : PZ} {e : AE} (P : PRs h o fs s) (hr : rowS (some e) (tyL.getD j (0, 0))) : PRs (uph h (o + 1 + j) e) o fs s := ⟨P.1.keep (uph_ne (by omega)), P.2.1.row1 hr, P.2.2⟩
theorem NMp.ag8 {h h' : AH} {o d cI cR cL : Nat} {fs fs' : List Value} {nmI nmR nmL : Nat → Int64} (H : NMp h o fs d cI cR cL nmI nmR nmL) (e20 : fs'[20]? = fs[20]?) (hs : ∀ j, j = 7 ∨ j = 9 ∨ j = 10 ∨ j = 12 ∨ j = 13 ∨ j = 15 → h' (o + 1 + j) = h (o + 1 + j)) : NMp h' o fs' d cI cR cL nmI nmR nmL := by
  obtain ⟨a, b, ⟨g1, n1, x1, x2, x3⟩, ⟨g2, n2, y1, y2, y3⟩, g3, n3, z1, z2, z3⟩ := H
  exact ⟨e20.trans a, b, ⟨g1, n1, (hs 7 (by omega)).trans x1, (hs 9 (by omega)).trans x2, x3⟩, ⟨g2, n2, (hs 10 (by omega)).trans y1, (hs 12 (by omega)).trans y2, y3⟩, g3, n3, (hs 13 (by omega)).trans z1, (hs 15 (by omega)).trans z2, z3⟩
set_option maxHeartbeats 8000000 in
theorem m_namedF {l : Launch} {G : GG} {h : AH} {nx : Nat} {Post : Option Value → AH → Nat → Prop} {o f q n m : Nat} {u : Nat → Nat} {fs : List Value} (hX : XC G ∧ TX l G) (hF : PFl h o fs f q) (hT : tokM h o u n m) (hP : ∀ v : Int64, Post (some (.long v)) h nx) : Runs l G i_X12_named 0 0 [.ref o] h nx Post := by
  obtain ⟨g2, g3, g4, g5, a2, a3, a4, a5, p⟩ := hT
  obtain ⟨hM, hS, c13, c14, f0, f5, t, ht, c11, _⟩ := id hF
  refine en_X12_named hX [] 60 rfl ?_
  refine Exists.intro _ (And.intro hM.1 (Exists.intro _ (And.intro c11 ?_)))
  refine Exists.intro _ (And.intro hM.1 (Exists.intro 0 (Exists.intro 0 (And.intro (Nat.le_refl _) (And.intro (Nat.le_refl _) (m_mustF hX hF ?_))))))
  refine Exists.intro _ (And.intro hM.1 (Exists.intro _ (And.intro (hM.2.2 5 (by decide)) ?_)))
  refine Exists.intro _ (Exists.intro _ (And.intro a5 (And.intro (vp_in_nI (show t < 403 by omega) (by decide)) ?_)))
  refine Exists.intro _ (And.intro hM.1 (Exists.intro _ (And.intro c13 ?_)))
  refine And.intro (fun _ => ?_) (fun cz => absurd cz (fun z => by have := (nI_eq (a := f) (b := 0) (by omega) (by omega)).mp z; omega))
  exact hP _
/-- what a text's tokens end with: all there are, or its end -/
def tkEnd (u : Nat → Nat) (n m : Nat) : Prop := m = 401 ∨ ∃ e, e + 1 = m ∧ kdN u n e = 0
theorem tkEnd.s {u : Nat → Nat} {n m x : Nat} (H : tkEnd u n m) (h1 : x < m) (h2 : kdN u n x ≠ 0) (h3 : x < 400) : x + 1 < m := by
  rcases H with e | ⟨e, e1, e2⟩
  · omega
  · by_cases c : x = e
    · rw [c] at h2; exact absurd e2 h2
    · omega
/-- why a token j that was to be of kind k is a fault f -/
def mstF (kd : Nat → Nat) (j k f : Nat) : Prop := (kd j ≠ k ∧ f = 1) ∨ (kd j = k ∧ j = 400 ∧ f = 2)
def inF (kd : Nat → Nat) (t j f : Nat) : Prop := (t = 400 ∧ j = t ∧ f = 2) ∨ (t < 400 ∧ j = t + 1 ∧ mstF kd j 2 f) ∨ (t + 1 < 400 ∧ kd (t + 1) = 2 ∧ j = t + 2 ∧ mstF kd j 12 f)
set_option maxHeartbeats 8000000 in
theorem m_tellInput {l : Launch} {G : GG} {h : AH} {nx : Nat} {Post : Option Value → AH → Nat → Prop} {o d cI cR cL n m t op cd sg wa wg wo : Nat} {wp : Int32} {u : Nat → Nat} {nmI nmR nmL gn : Nat → Int64} {gc g8 : Nat → Int32} {fs : List Value} (hX : XC G ∧ TX l G) (hP0 : PRs h o fs ((t, op, cd, sg), (wa, wg, wo, wp))) (hT : tokM h o u n m) (hu : ∀ i, u i < 256) (ht : t < m) (hm : m ≤ 401) (hn : n ≤ 2000) (hE : tkEnd u n m) (hk0 : kdN u n t ≠ 0) (hN : NMp h o fs d cI cR cL nmI nmR nmL) (hc5 : cI < 5) (h7 : h (o + 1 + 7) = some (.inl (0, 5, .inl gc))) (h7c : gc d = nI cI) (h8 : h (o + 1 + 8) = some (.inl (3, 25, .inl g8))) (h9 : h (o + 1 + 9) = some (.inl (1, 25, .inr (.inl gn)))) (hw : wo ≤ 5) (hC : wo = 0 ∨ ∃ q, wp = nI q ∧ q ≤ 2000 ∧ q < plN u n (t + 1)) (hB : ∀ (j f : Nat) (h1 : AH) (fs1 : List Value), inF (kdN u n) t j f → PFl h1 o fs1 f (plN u n j) → pfF fs fs1 → (∀ x, x ≠ o → x ≠ o + 1 + 8 → h1 x = h x) → h1 (o + 1 + 8) = some (.inl (3, 25, .inl (upd g8 (5 * d + cI) (nI (decide (kdN u n t = 5)).toNat)))) → Post none h1 nx) (hP : kdN u n (t + 1) = 2 → kdN u n (t + 2) = 12 → t + 2 < 400 → ∀ (h1 : AH) (fs1 : List Value) (wo' : Nat) (wp' : Int32), (twN nmI nmR nmL cI cR cL (vaN u n (t + 1)) ∧ (wo', wp') = wUp wo wp 3 (plN u n (t + 1)) ∨ ¬ twN nmI nmR nmL cI cR cL (vaN u n (t + 1)) ∧ (wo', wp') = (wo, wp)) → PRs h1 o fs1 ((t + 3, op, cd, sg), (wa, wg, wo', wp')) → pfF fs fs1 → (∀ x, x ≠ o → x ≠ o + 1 + 7 → x ≠ o + 1 + 8 → x ≠ o + 1 + 9 → h1 x = h x) → h1 (o + 1 + 7) = some (.inl (0, 5, .inl (upd gc d (nI (cI + 1))))) → h1 (o + 1 + 8) = some (.inl (3, 25, .inl (upd g8 (5 * d + cI) (nI (decide (kdN u n t = 5)).toNat)))) → h1 (o + 1 + 9) = some (.inl (1, 25, .inr (.inl (vp_updL gn (5 * d + cI) (vaN u n (t + 1)))))) → Post none h1 nx) : Runs l G i_X12_tellInput 0 0 [.ref o] h nx Post := by
  have hM := hP0.1
  have f20 := hN.1
  have hd := hN.2.1
  have ei : (5 : Int32) * nI d + nI cI = nI (5 * d + cI) := by rw [show (5 : Int32) = nI 5 from rfl, nI_mul, nI_add]
  have hkm : mkK (kdN u n t) = 21 ↔ kdN u n t = 5 := ⟨fun z => mkK_inj _ (kdN_lt hu n t) 5 (by decide) z, fun z => by rw [z]; rfl⟩
  have hk4 : mkK (kdN u n (t + 2)) = 4 ↔ kdN u n (t + 2) = 12 := ⟨fun z => mkK_inj _ (kdN_lt hu n _) 12 (by decide) z, fun z => by rw [z]; rfl⟩
  have at17 : ∀ v, v = nI (5 * d + cI) → Go l G 12 s_X12_tellInput 0 0 Post 17 [(1, .int v), (0, .ref o)] [] h nx 0 0 := by
    intro v hv
    subst hv
    refine Go.of hX.2 ck_X12_tellInput [38] 60 ?_
    refine Exists.intro _ (And.intro hM.1 (Exists.intro _ (And.intro (hM.2.2 8 (by decide)) ?_)))
    refine Exists.intro _ (And.intro hM.1 (Exists.intro 0 (Exists.intro 0 (And.intro (Nat.le_refl _) (And.intro (Nat.le_refl _) (m_is (k := 21) hX hP0 hT hu ht hm (by decide) ?_))))))
    rw [show decide (mkK (kdN u n ((t, op, cd, sg), (wa, wg, wo, wp)).1.1) = 21) = decide (kdN u n t = 5) from decide_eq_decide.mpr hkm]
    refine Exists.intro 3 (Exists.intro _ (Exists.intro _ (And.intro h8 (And.intro (Or.inr rfl) (And.intro (vp_in_nI (show 5 * d + cI < 25 by omega) (by decide)) ?_)))))
    rw [nI_clamp (show 5 * d + cI < 2 ^ 31 by omega), nar_b]
    have P1 := hP0.row (j := 8) (e := .inl (3, 25, .inl (upd g8 (5 * d + cI) (nI (decide (kdN u n t = 5)).toNat)))) (rowS_i (by decide) rfl ⟨_, rfl⟩)
    generalize hh : uph h (o + 1 + 8) (.inl (3, 25, .inl (upd g8 (5 * d + cI) (nI (decide (kdN u n t = 5)).toNat)))) = H at P1
    have H8 : H (o + 1 + 8) = some (.inl (3, 25, .inl (upd g8 (5 * d + cI) (nI (decide (kdN u n t = 5)).toNat)))) := by rw [← hh]; exact uph_eq
    have Hf : ∀ x, x ≠ o + 1 + 8 → H x = h x := fun x hx => by rw [← hh]; exact uph_ne hx
    have T1 : tokM H o u n m := hT.ag (fun x x1 x2 => Hf x (by omega))
    have tail : ∀ (h1 : AH) (fs1 : List Value) (j f : Nat) (v : Int64), inF (kdN u n) t j f → PFl h1 o fs1 f (plN u n j) → pfF fs fs1 → (∀ x, x ≠ o → h1 x = H x) → Go l G 12 s_X12_tellInput 0 0 Post 38 [(2, .long v), (1, .int (nI (5 * d + cI))), (0, .ref o)] [] h1 nx 0 0 := by
      intro h1 fs1 j f v i1 i2 i3 i4
      have fb := i2.2.2.2.2
      refine Go.of hX.2 ck_X12_tellInput [] 20 ?_
      refine Exists.intro _ (And.intro i2.1.1 (Exists.intro 0 (Exists.intro 0 (And.intro (Nat.le_refl _) (And.intro (Nat.le_refl _) (m_mustF hX i2 ?_))))))
      refine Exists.intro _ (And.intro i2.1.1 (Exists.intro _ (And.intro i2.2.2.1 ?_)))
      refine And.intro (fun cz => absurd cz (show ¬ nI f ≤ 0 from nI_ge (a := 0) fb.1 (by omega))) (fun _ => ?_)
      exact hB j f h1 fs1 i1 i2 i3 (fun x x1 x2 => (i4 x x1).trans (Hf x x2)) ((i4 _ (by omega)).trans H8)
    refine Exists.intro _ (And.intro P1.1.1 (Exists.intro 0 (Exists.intro 0 (And.intro (Nat.le_refl _) (And.intro (Nat.le_refl _) (m_goesOn hX P1 T1 ht hm (fun e h1 fs1 z1 z2 z3 => ?_) (fun e h1 fs1 z1 z2 z3 => ?_)))))))
    · refine Exists.intro _ (And.intro z1.1.1 (Exists.intro 0 (Exists.intro 0 (And.intro (Nat.le_refl _) (And.intro (Nat.le_refl _) (m_namedF hX z1 (T1.ag (fun x x1 x2 => z3 x (by omega))) (fun v => ?_)))))))
      exact go_loc (lv' := [(2, .long v), (1, .int (nI (5 * d + cI))), (0, .ref o)]) ⟨rfl, rfl, rfl, trivial⟩ (tail h1 fs1 t 2 v (Or.inl ⟨e, rfl, rfl⟩) z1 z2 z3)
    · have T2 : tokM h1 o u n m := T1.ag (fun x x1 x2 => z3 x (by omega))
      have N2 : NMp h1 o fs1 d cI cR cL nmI nmR nmL := hN.ag8 (z2 20 (by omega)) (fun j hj => (z3 _ (by omega)).trans (Hf _ (by omega)))
      have t1 : t + 1 < m := hE.s ht hk0 e
      have good : ∀ (h2 : AH) (fs2 : List Value) (wo' : Nat) (wp' : Int32), kdN u n (t + 1) = 2 → t + 1 < 400 → (twN nmI nmR nmL cI cR cL (vaN u n (t + 1)) ∧ (wo', wp') = wUp wo wp 3 (plN u n (t + 1)) ∨ ¬ twN nmI nmR nmL cI cR cL (vaN u n (t + 1)) ∧ (wo', wp') = (wo, wp)) → PRs h2 o fs2 ((t + 2, op, cd, sg), (wa, wg, wo', wp')) → pfF fs1 fs2 → (∀ x, x ≠ o → h2 x = h1 x) → Go l G 12 s_X12_tellInput 0 0 Post 38 [(2, .long (vaN u n (t + 1))), (1, .int (nI (5 * d + cI))), (0, .ref o)] [] h2 nx 0 0 := by
        intro h2 fs2 wo' wp' k2 tl hW y1 y2 y3
        have f2 : ∀ x, x ≠ o → h2 x = H x := fun x hx => (y3 x hx).trans (z3 x hx)
        have T3 : tokM h2 o u n m := T2.ag (fun x x1 x2 => y3 x (by omega))
        have t2 : t + 2 < m := hE.s t1 (by omega) tl
        refine Go.of hX.2 ck_X12_tellInput [] 60 ?_
        refine Exists.intro _ (And.intro y1.1.1 (Exists.intro 0 (Exists.intro 0 (And.intro (Nat.le_refl _) (And.intro (Nat.le_refl _) (m_must (k := 4) hX y1 T3 hu t2 hm (by decide) (fun f h3 fs3 v0 v1 v2 v3 => ?_) (fun v0 tl2 h3 fs3 v1 v2 v3 => ?_)))))))
        · have fb := v1.2.2.2.2
          have v00 : mstF (kdN u n) (t + 2) 12 f := v0.imp (fun z => ⟨fun w => z.1 (hk4.mpr w), z.2⟩) (fun z => ⟨hk4.mp z.1, z.2⟩)
          refine Exists.intro _ (And.intro v1.1.1 (Exists.intro _ (And.intro v1.2.2.1 ?_)))
          refine And.intro (fun cz => absurd cz (show ¬ nI f ≤ 0 from nI_ge (a := 0) fb.1 (by omega))) (fun _ => ?_)
          exact hB (t + 2) f h3 fs3 (Or.inr (Or.inr ⟨tl, k2, rfl, v00⟩)) v1 ((z2.tr y2).tr v2) (fun x x1 x2 => (v3 x x1).trans ((f2 x x1).trans (Hf x x2))) ((v3 _ (by omega)).trans ((f2 _ (by omega)).trans H8))
        · have f3 : ∀ x, x ≠ o → x ≠ o + 1 + 8 → h3 x = h x := fun x x1 x2 => (v3 x x1).trans ((f2 x x1).trans (Hf x x2))
          have e20 : fs3[20]? = some (.int (nI d)) := (((z2.tr y2).tr v2) 20 (by omega)).trans f20
          have r9 := (f3 (o + 1 + 9) (by omega) (by omega)).trans h9
          have r7 := (f3 (o + 1 + 7) (by omega) (by omega)).trans h7
          refine Exists.intro _ (And.intro v1.1.1 (Exists.intro _ (And.intro v1.2.2.1 ?_)))
          refine And.intro (fun _ => ?_) (fun cz => by first | exact absurd cz (by decide) | exact absurd (by decide) cz)
          refine Exists.intro _ (And.intro v1.1.1 (Exists.intro _ (And.intro (v1.1.2.2 9 (by decide)) ?_)))
          refine Exists.intro _ (Exists.intro _ (And.intro r9 (And.intro (vp_in_nI (show 5 * d + cI < 25 by omega) (by decide)) ?_)))
          rw [nI_clamp (show 5 * d + cI < 2 ^ 31 by omega)]
          have Q1 := v1.row (j := 9) (e := .inl (1, 25, .inr (.inl (vp_updL gn (5 * d + cI) (vaN u n (t + 1)))))) ⟨_, rfl⟩
          refine Exists.intro _ (And.intro Q1.1.1 (Exists.intro _ (And.intro (v1.1.2.2 7 (by decide)) ?_)))
          refine Exists.intro _ (And.intro Q1.1.1 (Exists.intro _ (And.intro e20 ?_)))
          refine Exists.intro _ (Exists.intro _ (And.intro ((uph_ne (by omega)).trans r7) (And.intro (vp_in_nI hd (by decide)) ?_)))
          rw [nI_clamp (show d < 2 ^ 31 by omega), h7c]
          refine Exists.intro _ (Exists.intro _ (And.intro ((uph_ne (by omega)).trans r7) (And.intro (vp_in_nI hd (by decide)) ?_)))
          rw [nI_clamp (show d < 2 ^ 31 by omega), show nI cI + 1 = nI (cI + 1) from (nI_succ cI).symm]
          have Q2 := Q1.row (j := 7) (e := .inl (0, 5, .inl (upd gc d (nI (cI + 1))))) (rowS_i (by decide) rfl ⟨_, rfl⟩)
          exact hP k2 (hk4.mp v0) tl2 _ fs3 wo' wp' hW Q2 ((z2.tr y2).tr v2) (fun x x1 x2 x3 x4 => (uph_ne x2).trans ((uph_ne x4).trans (f3 x x1 x3))) uph_eq ((uph_ne (by omega)).trans ((uph_ne (by omega)).trans ((v3 _ (by omega)).trans ((f2 _ (by omega)).trans H8)))) ((uph_ne (by omega)).trans uph_eq)
      refine Exists.intro _ (And.intro z1.1.1 (Exists.intro 0 (Exists.intro 0 (And.intro (Nat.le_refl _) (And.intro (Nat.le_refl _) (m_named hX z1 T2 hu t1 hm hn N2 hw hC (fun f h2 fs2 v y0 y1 y2 y3 => ?_) (fun k2 tl tw h2 fs2 y1 y2 y3 => ?_) (fun k2 tl tw h2 fs2 y1 y2 y3 => ?_)))))))
      · exact go_loc (lv' := [(2, .long v), (1, .int (nI (5 * d + cI))), (0, .ref o)]) ⟨rfl, rfl, rfl, trivial⟩ (tail h2 fs2 (t + 1) f v (Or.inr (Or.inl ⟨e, rfl, y0⟩)) y1 (z2.tr y2) (fun x hx => (y3 x hx).trans (z3 x hx)))
      · exact go_loc (lv' := [(2, .long (vaN u n (t + 1))), (1, .int (nI (5 * d + cI))), (0, .ref o)]) ⟨rfl, rfl, rfl, trivial⟩ (good h2 fs2 _ _ k2 tl (Or.inl ⟨tw, rfl⟩) y1 y2 y3)
      · exact go_loc (lv' := [(2, .long (vaN u n (t + 1))), (1, .int (nI (5 * d + cI))), (0, .ref o)]) ⟨rfl, rfl, rfl, trivial⟩ (good h2 fs2 wo wp k2 tl (Or.inr ⟨tw, rfl⟩) y1 y2 y3)
  refine en_X12_tellInput hX [17] 40 rfl ?_
  refine Exists.intro _ (And.intro hM.1 (Exists.intro _ (And.intro f20 ?_)))
  refine Exists.intro _ (And.intro hM.1 (Exists.intro _ (And.intro (hM.2.2 7 (by decide)) ?_)))
  refine Exists.intro _ (And.intro hM.1 (Exists.intro _ (And.intro f20 ?_)))
  refine Exists.intro _ (Exists.intro _ (And.intro h7 (And.intro (vp_in_nI hd (by decide)) ?_)))
  rw [nI_clamp (show d < 2 ^ 31 by omega), h7c]
  exact go_loc (lv' := [(1, .int (5 * nI d + nI cI)), (0, .ref o)]) ⟨rfl, rfl, trivial⟩ (at17 _ ei)
