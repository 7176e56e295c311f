/-! the model reads: a contact -/
set_option maxHeartbeats 8000000 in
theorem m_unitC {l : Launch} {G : GG} {h : AH} {nx : Nat} {Post : Option Value → AH → Nat → Prop} {o n m d K ow t op cd sg wa wg wo : Nat} {wp : Int32} {u : Nat → Nat} {gc gw gb gt g : Nat → Int32} {fs : List Value} (hX : XC G ∧ TX l G) (hP0 : PRs h o fs ((t, op, cd, sg), (wa, wg, wo, wp))) (hT : tokM h o u n m) (hu : ∀ i, u i < 256) (ht : t < m) (hm : m ≤ 401) (hE : tkEnd u n m) (how : ow < 16) (f20 : fs[20]? = some (.int (nI d))) (hd : d < 5) (h18 : h (o + 1 + 18) = some (.inl (0, 5, .inl gc))) (h18c : gc d = nI K) (hK : K ≤ 40) (h19 : h (o + 1 + 19) = some (.inl (0, 200, .inl gw))) (h21 : h (o + 1 + 21) = some (.inl (3, 200, .inl gb))) (h22 : h (o + 1 + 22) = some (.inl (0, 200, .inl gt))) (h27 : h (o + 1 + 27) = some (.inl (0, 2100, .inl g))) (hcd : cd < 2100) (hB : ∀ (j f : Nat) (h1 : AH) (fs1 : List Value), (unF (kdN u n) t j f ∨ ∃ b, unA (kdN u n) t j b ∧ kdN u n j = 2 ∧ (K = 40 ∨ j = 400) ∧ f = 2) → PFl h1 o fs1 f (plN u n j) → pfF fs fs1 → ((∀ x, x ≠ o → h1 x = h x) ∨ (K < 40 ∧ (∀ x, x ≠ o → x ≠ o + 1 + 18 → x ≠ o + 1 + 19 → x ≠ o + 1 + 21 → x ≠ o + 1 + 22 → x ≠ o + 1 + 27 → h1 x = h x) ∧ ∃ b : Bool, h1 (o + 1 + 18) = some (.inl (0, 5, .inl (upd gc d (nI (K + 1))))) ∧ h1 (o + 1 + 19) = some (.inl (0, 200, .inl (upd gw (40 * d + K) (nI ow)))) ∧ h1 (o + 1 + 21) = some (.inl (3, 200, .inl (upd gb (40 * d + K) (nI b.toNat)))) ∧ h1 (o + 1 + 22) = some (.inl (0, 200, .inl (upd gt (40 * d + K) (nI j)))) ∧ h1 (o + 1 + 27) = some (.inl (0, 2100, .inl (upd g cd (nI K)))))) → Post none h1 nx) (hP : ∀ (b : Bool) (j : Nat) (h1 : AH) (fs1 : List Value), unA (kdN u n) t j b → kdN u n j = 2 → K < 40 → j < 400 → PRs h1 o fs1 ((j + 1, op, cd + 1, sg), (wa, wg, wo, wp)) → pfF fs fs1 → (∀ x, x ≠ o → x ≠ o + 1 + 18 → x ≠ o + 1 + 19 → x ≠ o + 1 + 21 → x ≠ o + 1 + 22 → x ≠ o + 1 + 27 → h1 x = h x) → h1 (o + 1 + 18) = some (.inl (0, 5, .inl (upd gc d (nI (K + 1))))) → h1 (o + 1 + 19) = some (.inl (0, 200, .inl (upd gw (40 * d + K) (nI ow)))) → h1 (o + 1 + 21) = some (.inl (3, 200, .inl (upd gb (40 * d + K) (nI b.toNat)))) → h1 (o + 1 + 22) = some (.inl (0, 200, .inl (upd gt (40 * d + K) (nI j)))) → h1 (o + 1 + 27) = some (.inl (0, 2100, .inl (upd g cd (nI K)))) → Post none h1 nx) : Runs l G i_X12_unit 0 0 [.ref o, .int (nI ow)] h nx Post := by
  refine m_unitHd hX hP0 hT hu ht hm hE (fun j f h1 fs1 a1 a2 a3 a4 => hB j f h1 fs1 (Or.inl a1) a2 a3 (Or.inl a4)) (fun b j h1 fs1 hb hk hj z1 z2 z3 => ?_)
  have c11 : fs1[11]? = some (.int (nI j)) := z1.2.2.2.1
  have e20 : fs1[20]? = some (.int (nI d)) := (z2 20 (by omega)).trans f20
  have r18 := (z3 _ (by omega)).trans h18
  have r19 := (z3 _ (by omega)).trans h19
  have r21 := (z3 _ (by omega)).trans h21
  have r22 := (z3 _ (by omega)).trans h22
  have r27 := (z3 _ (by omega)).trans h27
  have T1 : tokM h1 o u n m := hT.ag (fun x x1 x2 => z3 x (by omega))
  have ei : (40 : Int32) * nI d + nI K = nI (40 * d + K) := by rw [show (40 : Int32) = nI 40 from rfl, nI_mul, nI_add]
  have nm1 : ∀ w, w < 16 → ¬ nI w = -1 := by decide
  have at143 : K < 40 → ∀ v, v = nI (40 * d + K) → Go l G 12 s_X12_unit 0 0 Post 143 [(3, .int v), (2, .int (nI b.toNat)), (0, .ref o), (1, .int (nI ow))] [] h1 nx 0 0 := by
    intro hK2 v hv
    subst hv
    have Q1 := z1.row (j := 19) (e := .inl (0, 200, .inl (upd gw (40 * d + K) (nI ow)))) (rowS_i (by decide) rfl ⟨_, rfl⟩)
    have Q2 := Q1.row (j := 21) (e := .inl (3, 200, .inl (upd gb (40 * d + K) (nI b.toNat)))) (rowS_i (by decide) rfl ⟨_, rfl⟩)
    have Q3 := Q2.row (j := 22) (e := .inl (0, 200, .inl (upd gt (40 * d + K) (nI j)))) (rowS_i (by decide) rfl ⟨_, rfl⟩)
    refine Go.of hX.2 ck_X12_unit [] 90 ?_
    refine Exists.intro _ (And.intro z1.1.1 (Exists.intro _ (And.intro (z1.1.2.2 19 (by decide)) ?_)))
    refine Exists.intro _ (Exists.intro _ (And.intro r19 (And.intro (vp_in_nI (show 40 * d + K < 200 by omega) (by decide)) ?_)))
    rw [nI_clamp (show 40 * d + K < 2 ^ 31 by omega)]
    refine Exists.intro _ (And.intro Q1.1.1 (Exists.intro _ (And.intro (z1.1.2.2 21 (by decide)) ?_)))
    refine Exists.intro 3 (Exists.intro _ (Exists.intro _ (And.intro ((uph_ne (by omega)).trans r21) (And.intro (Or.inr rfl) (And.intro (vp_in_nI (show 40 * d + K < 200 by omega) (by decide)) ?_)))))
    rw [nI_clamp (show 40 * d + K < 2 ^ 31 by omega), nar_b]
    refine Exists.intro _ (And.intro Q2.1.1 (Exists.intro _ (And.intro (z1.1.2.2 22 (by decide)) ?_)))
    refine Exists.intro _ (And.intro Q2.1.1 (Exists.intro _ (And.intro c11 ?_)))
    refine Exists.intro _ (Exists.intro _ (And.intro ((uph_ne (by omega)).trans ((uph_ne (by omega)).trans r22)) (And.intro (vp_in_nI (show 40 * d + K < 200 by omega) (by decide)) ?_)))
    rw [nI_clamp (show 40 * d + K < 2 ^ 31 by omega)]
    generalize hh : uph (uph (uph h1 (o + 1 + 19) (.inl (0, 200, .inl (upd gw (40 * d + K) (nI ow))))) (o + 1 + 21) (.inl (3, 200, .inl (upd gb (40 * d + K) (nI b.toNat))))) (o + 1 + 22) (.inl (0, 200, .inl (upd gt (40 * d + K) (nI j)))) = H at Q3
    have H19 : H (o + 1 + 19) = some (.inl (0, 200, .inl (upd gw (40 * d + K) (nI ow)))) := by rw [← hh, uph_ne (by omega), uph_ne (by omega)]; exact uph_eq
    have H21 : H (o + 1 + 21) = some (.inl (3, 200, .inl (upd gb (40 * d + K) (nI b.toNat)))) := by rw [← hh, uph_ne (by omega)]; exact uph_eq
    have H22 : H (o + 1 + 22) = some (.inl (0, 200, .inl (upd gt (40 * d + K) (nI j)))) := by rw [← hh]; exact uph_eq
    have Hf : ∀ x, x ≠ o + 1 + 19 → x ≠ o + 1 + 21 → x ≠ o + 1 + 22 → H x = h1 x := fun x x1 x2 x3 => by rw [← hh, uph_ne x3, uph_ne x2, uph_ne x1]
    have H18 := (Hf (o + 1 + 18) (by omega) (by omega) (by omega)).trans r18
    have H27 := (Hf (o + 1 + 27) (by omega) (by omega) (by omega)).trans r27
    refine Exists.intro _ (And.intro Q3.1.1 (Exists.intro _ (And.intro (z1.1.2.2 18 (by decide)) ?_)))
    refine Exists.intro _ (And.intro Q3.1.1 (Exists.intro _ (And.intro e20 ?_)))
    refine Exists.intro _ (Exists.intro _ (And.intro H18 (And.intro (vp_in_nI hd (by decide)) ?_)))
    rw [nI_clamp (show d < 2 ^ 31 by omega), h18c]
    refine Exists.intro _ (And.intro Q3.1.1 (Exists.intro 0 (Exists.intro 0 (And.intro (Nat.le_refl _) (And.intro (Nat.le_refl _) (m_emit (k := K) hX Q3 H27 hcd (fun h2 fs2 y1 y2 y3 y4 => ?_)))))))
    have e20b : fs2[20]? = some (.int (nI d)) := (y2 20 (by omega)).trans e20
    have r18b := (y4 (o + 1 + 18) (by omega) (by omega)).trans H18
    refine Exists.intro _ (And.intro y1.1.1 (Exists.intro _ (And.intro (y1.1.2.2 18 (by decide)) ?_)))
    refine Exists.intro _ (And.intro y1.1.1 (Exists.intro _ (And.intro e20b ?_)))
    refine Exists.intro _ (Exists.intro _ (And.intro r18b (And.intro (vp_in_nI hd (by decide)) ?_)))
    rw [nI_clamp (show d < 2 ^ 31 by omega), h18c]
    refine Exists.intro _ (Exists.intro _ (And.intro r18b (And.intro (vp_in_nI hd (by decide)) ?_)))
    rw [nI_clamp (show d < 2 ^ 31 by omega), show nI K + 1 = nI (K + 1) from (nI_succ K).symm]
    have Q4 := y1.row (j := 18) (e := .inl (0, 5, .inl (upd gc d (nI (K + 1))))) (rowS_i (by decide) rfl ⟨_, rfl⟩)
    have f2 : ∀ x, x ≠ o → x ≠ o + 1 + 18 → x ≠ o + 1 + 19 → x ≠ o + 1 + 21 → x ≠ o + 1 + 22 → x ≠ o + 1 + 27 → uph h2 (o + 1 + 18) (.inl (0, 5, .inl (upd gc d (nI (K + 1))))) x = h x := fun x x1 x2 x3 x4 x5 x6 => (uph_ne x2).trans ((y4 x x1 x6).trans ((Hf x x3 x4 x5).trans (z3 x x1)))
    have T2 : tokM (uph h2 (o + 1 + 18) (.inl (0, 5, .inl (upd gc d (nI (K + 1)))))) o u n m := hT.ag (fun x x1 x2 => f2 x (by omega) (by omega) (by omega) (by omega) (by omega) (by omega))
    refine Exists.intro _ (And.intro Q4.1.1 (Exists.intro 0 (Exists.intro 0 (And.intro (Nat.le_refl _) (And.intro (Nat.le_refl _) (m_goesOn hX Q4 T2 hj hm (fun e h3 fs3 v1 v2 v3 => ?_) (fun e h3 fs3 v1 v2 v3 => ?_)))))))
    · exact hB j 2 h3 fs3 (Or.inr ⟨b, hb, hk, Or.inr e, rfl⟩) v1 ((z2.tr y2).tr v2) (Or.inr ⟨hK2, fun x x1 x2 x3 x4 x5 x6 => (v3 x x1).trans (f2 x x1 x2 x3 x4 x5 x6), b, (v3 _ (by omega)).trans uph_eq, (v3 _ (by omega)).trans ((uph_ne (by omega)).trans ((y4 _ (by omega) (by omega)).trans H19)), (v3 _ (by omega)).trans ((uph_ne (by omega)).trans ((y4 _ (by omega) (by omega)).trans H21)), (v3 _ (by omega)).trans ((uph_ne (by omega)).trans ((y4 _ (by omega) (by omega)).trans H22)), (v3 _ (by omega)).trans ((uph_ne (by omega)).trans y3)⟩)
    · exact hP b j h3 fs3 hb hk hK2 e v1 ((z2.tr y2).tr v2) (fun x x1 x2 x3 x4 x5 x6 => (v3 x x1).trans (f2 x x1 x2 x3 x4 x5 x6)) ((v3 _ (by omega)).trans uph_eq) ((v3 _ (by omega)).trans ((uph_ne (by omega)).trans ((y4 _ (by omega) (by omega)).trans H19))) ((v3 _ (by omega)).trans ((uph_ne (by omega)).trans ((y4 _ (by omega) (by omega)).trans H21))) ((v3 _ (by omega)).trans ((uph_ne (by omega)).trans ((y4 _ (by omega) (by omega)).trans H22))) ((v3 _ (by omega)).trans ((uph_ne (by omega)).trans y3))
  refine Go.of hX.2 ck_X12_unit [143] 60 ?_
  refine And.intro (fun _ => ?_) (fun cz => absurd cz (nm1 ow how))
  refine Exists.intro _ (And.intro z1.1.1 (Exists.intro _ (And.intro (z1.1.2.2 18 (by decide)) ?_)))
  refine Exists.intro _ (And.intro z1.1.1 (Exists.intro _ (And.intro e20 ?_)))
  refine Exists.intro _ (Exists.intro _ (And.intro r18 (And.intro (vp_in_nI hd (by decide)) ?_)))
  rw [nI_clamp (show d < 2 ^ 31 by omega), h18c]
  by_cases c : K = 40
  · refine And.intro (fun cz => absurd (show nI K = 40 from by rw [c]; rfl) cz) (fun _ => ?_)
    refine Exists.intro _ (And.intro z1.1.1 (Exists.intro 0 (Exists.intro 0 (And.intro (Nat.le_refl _) (And.intro (Nat.le_refl _) (m_fail (f := 2) hX z1 T1 hj hm (by decide) (fun h2 fs2 y1 y2 y3 => ?_)))))))
    refine Exists.intro _ (And.intro y1.1.1 (Exists.intro _ (And.intro y1.2.2.1 ?_)))
    refine And.intro (fun cz => absurd cz (show ¬ nI 2 ≤ 0 from by decide)) (fun _ => ?_)
    exact hB j 2 h2 fs2 (Or.inr ⟨b, hb, hk, Or.inl c, rfl⟩) y1 (z2.tr y2) (Or.inl (fun x x1 => (y3 x x1).trans (z3 x x1)))
  · refine And.intro (fun _ => ?_) (fun cz => absurd cz (fun z => c ((nI_eq (a := K) (b := 40) (by omega) (by omega)).mp z)))
    refine Exists.intro _ (And.intro z1.1.1 (Exists.intro _ (And.intro z1.2.2.1 ?_)))
    refine And.intro (fun _ => ?_) (fun cz => by first | exact absurd cz (by decide) | exact absurd (by decide) cz)
    refine Exists.intro _ (And.intro z1.1.1 (Exists.intro _ (And.intro e20 ?_)))
    refine Exists.intro _ (And.intro z1.1.1 (Exists.intro _ (And.intro (z1.1.2.2 18 (by decide)) ?_)))
    refine Exists.intro _ (And.intro z1.1.1 (Exists.intro _ (And.intro e20 ?_)))
    refine Exists.intro _ (Exists.intro _ (And.intro r18 (And.intro (vp_in_nI hd (by decide)) ?_)))
    rw [nI_clamp (show d < 2 ^ 31 by omega), h18c]
    exact go_loc (lv' := [(3, .int (40 * nI d + nI K)), (2, .int (nI b.toNat)), (0, .ref o), (1, .int (nI ow))]) ⟨rfl, rfl, rfl, rfl, trivial⟩ (at143 (by omega) _ ei)
