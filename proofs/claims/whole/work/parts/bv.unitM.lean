/-! the model reads: a contact, or a name in a never -/
theorem PRs.a {h : AH} {o t op cd sg wa wg wo w2 : Nat} {wp : Int32} {fs : List Value} (P : PRs h o fs ((t, op, cd, sg), (wa, wg, wo, wp))) : PRs (uph h o (.inr (12, fs.set 45 (.int (nI w2))))) o (fs.set 45 (.int (nI w2))) ((t, op, cd, sg), (w2, wg, wo, wp)) := by
  obtain ⟨a, b, c13, c11, c12, c41, c43, c45, c49, c15, c16⟩ := P
  exact ⟨a.pst (by omega), b.obj, by rw [get_set_ne (by decide)]; exact c13, by rw [get_set_ne (by decide)]; exact c11, by rw [get_set_ne (by decide)]; exact c12, by rw [get_set_ne (by decide)]; exact c41, by rw [get_set_ne (by decide)]; exact c43, get_set (by rw [a.2.1]; decide), by rw [get_set_ne (by decide)]; exact c49, by rw [get_set_ne (by decide)]; exact c15, by rw [get_set_ne (by decide)]; exact c16⟩
/-- why a unit at token t is a fault f at token j -/
def unF (kd : Nat → Nat) (t j f : Nat) : Prop := (kd t = 14 ∧ t = 400 ∧ j = t ∧ f = 2) ∨ (((kd t = 14 ∧ t < 400 ∧ j = t + 1) ∨ (kd t ≠ 14 ∧ j = t)) ∧ kd j ≠ 2 ∧ f = 1)
/-- a unit's name stands at token j; b: a not ahead of it -/
def unA (kd : Nat → Nat) (t j : Nat) (b : Bool) : Prop := (b = true ∧ kd t = 14 ∧ t < 400 ∧ j = t + 1) ∨ (b = false ∧ kd t ≠ 14 ∧ j = t)
set_option maxHeartbeats 8000000 in
theorem m_unitHd {l : Launch} {G : GG} {h : AH} {nx : Nat} {Post : Option Value → AH → Nat → Prop} {o n m t op cd sg wa wg wo : Nat} {wp ow : Int32} {u : Nat → Nat} {fs : List Value} (hX : XC G ∧ TX l G) (hP0 : PRs h o fs ((t, op, cd, sg), (wa, wg, wo, wp))) (hT : tokM h o u n m) (hu : ∀ i, u i < 256) (ht : t < m) (hm : m ≤ 401) (hE : tkEnd u n m) (hB : ∀ (j f : Nat) (h1 : AH) (fs1 : List Value), unF (kdN u n) t j f → PFl h1 o fs1 f (plN u n j) → pfF fs fs1 → (∀ x, x ≠ o → h1 x = h x) → Post none h1 nx) (hP : ∀ (b : Bool) (j : Nat) (h1 : AH) (fs1 : List Value), unA (kdN u n) t j b → kdN u n j = 2 → j < m → PRs h1 o fs1 ((j, op, cd, sg), (wa, wg, wo, wp)) → pfF fs fs1 → (∀ x, x ≠ o → h1 x = h x) → Go l G 12 s_X12_unit 0 0 Post 37 [(2, .int (nI b.toNat)), (0, .ref o), (1, .int ow)] [] h1 nx 0 0) : Runs l G i_X12_unit 0 0 [.ref o, .int ow] h nx Post := by
  have hk8 : ∀ j, mkK (kdN u n j) = 8 ↔ kdN u n j = 14 := fun j => ⟨fun z => mkK_inj _ (kdN_lt hu n j) 14 (by decide) z, fun z => by rw [z]; rfl⟩
  have hk1 : ∀ j, mkK (kdN u n j) = 1 ↔ kdN u n j = 2 := fun j => ⟨fun z => mkK_inj _ (kdN_lt hu n j) 2 (by decide) z, fun z => by rw [z]; rfl⟩
  have at15 : ∀ (b : Bool) (j : Nat) (h1 : AH) (fs1 : List Value), unA (kdN u n) t j b → j < m → PRs h1 o fs1 ((j, op, cd, sg), (wa, wg, wo, wp)) → pfF fs fs1 → (∀ x, x ≠ o → h1 x = h x) → Go l G 12 s_X12_unit 0 0 Post 15 [(2, .int (nI b.toNat)), (0, .ref o), (1, .int ow)] [] h1 nx 0 0 := by
    intro b j h1 fs1 hb hj z1 z2 z3
    have T1 : tokM h1 o u n m := hT.ag (fun x x1 x2 => z3 x (by omega))
    refine Go.of hX.2 ck_X12_unit [37] 40 ?_
    refine Exists.intro _ (And.intro z1.1.1 (Exists.intro _ (And.intro z1.2.2.1 ?_)))
    refine And.intro (fun _ => ?_) (fun cz => by first | exact absurd cz (by decide) | exact absurd (by decide) cz)
    refine Exists.intro _ (And.intro z1.1.1 (Exists.intro 0 (Exists.intro 0 (And.intro (Nat.le_refl _) (And.intro (Nat.le_refl _) (m_is (k := 1) hX z1 T1 hu hj hm (by decide) ?_))))))
    by_cases c : kdN u n j = 2
    · rw [show decide (mkK (kdN u n ((j, op, cd, sg), (wa, wg, wo, wp)).1.1) = 1) = true from decide_eq_true ((hk1 j).mpr c)]
      refine And.intro (fun _ => ?_) (fun cz => by first | exact absurd cz (by decide) | exact absurd (by decide) cz)
      exact go_loc (lv' := [(2, .int (nI b.toNat)), (0, .ref o), (1, .int ow)]) ⟨rfl, rfl, rfl, trivial⟩ (hP b j h1 fs1 hb c hj z1 z2 z3)
    · rw [show decide (mkK (kdN u n ((j, op, cd, sg), (wa, wg, wo, wp)).1.1) = 1) = false from decide_eq_false (fun z => c ((hk1 j).mp z))]
      refine And.intro (fun cz => by first | exact absurd cz (by decide) | exact absurd (by decide) cz) (fun _ => ?_)
      refine Exists.intro _ (And.intro z1.1.1 (Exists.intro 0 (Exists.intro 0 (And.intro (Nat.le_refl _) (And.intro (Nat.le_refl _) (m_fail (f := 1) hX z1 T1 hj hm (by decide) (fun h2 fs2 y1 y2 y3 => ?_)))))))
      refine hB j 1 h2 fs2 (Or.inr ⟨?_, c, rfl⟩) y1 (z2.tr y2) (fun x hx => (y3 x hx).trans (z3 x hx))
      rcases hb with ⟨_, a, b, c⟩ | ⟨_, a, b⟩
      · exact Or.inl ⟨a, b, c⟩
      · exact Or.inr ⟨a, b⟩
  refine en_X12_unit hX [15] 40 rfl ?_
  refine Exists.intro _ (And.intro hP0.1.1 (Exists.intro 0 (Exists.intro 0 (And.intro (Nat.le_refl _) (And.intro (Nat.le_refl _) (m_is (k := 8) hX hP0 hT hu ht hm (by decide) ?_))))))
  by_cases c : kdN u n t = 14
  · rw [show decide (mkK (kdN u n ((t, op, cd, sg), (wa, wg, wo, wp)).1.1) = 8) = true from decide_eq_true ((hk8 t).mpr c)]
    refine And.intro (fun cz => by first | exact absurd cz (by decide) | exact absurd (by decide) cz) (fun _ => ?_)
    refine Exists.intro _ (And.intro hP0.1.1 (Exists.intro 0 (Exists.intro 0 (And.intro (Nat.le_refl _) (And.intro (Nat.le_refl _) (m_goesOn hX hP0 hT ht hm (fun e h1 fs1 z1 z2 z3 => ?_) (fun e h1 fs1 z1 z2 z3 => ?_)))))))
    · refine go_loc (lv' := [(2, .int (nI true.toNat)), (0, .ref o), (1, .int ow)]) ⟨rfl, rfl, rfl, trivial⟩ ?_
      refine Go.of hX.2 ck_X12_unit [] 20 ?_
      refine Exists.intro _ (And.intro z1.1.1 (Exists.intro _ (And.intro z1.2.2.1 ?_)))
      refine And.intro (fun cz => absurd cz (show ¬ nI 2 ≤ 0 from by decide)) (fun _ => ?_)
      exact hB t 2 h1 fs1 (Or.inl ⟨c, e, rfl, rfl⟩) z1 z2 z3
    · exact go_loc (lv' := [(2, .int (nI true.toNat)), (0, .ref o), (1, .int ow)]) ⟨rfl, rfl, rfl, trivial⟩ (at15 true (t + 1) h1 fs1 (Or.inl ⟨rfl, c, e, rfl⟩) (hE.s ht (by omega) e) z1 z2 z3)
  · rw [show decide (mkK (kdN u n ((t, op, cd, sg), (wa, wg, wo, wp)).1.1) = 8) = false from decide_eq_false (fun z => c ((hk8 t).mp z))]
    refine And.intro (fun _ => ?_) (fun cz => by first | exact absurd cz (by decide) | exact absurd (by decide) cz)
    exact go_loc (lv' := [(2, .int (nI false.toNat)), (0, .ref o), (1, .int ow)]) ⟨rfl, rfl, rfl, trivial⟩ (at15 false t h fs (Or.inr ⟨rfl, c, rfl⟩) ht hP0 (pfF.rf fs) (fun x _ => rfl))
set_option maxHeartbeats 8000000 in
theorem m_unitW {l : Launch} {G : GG} {h : AH} {nx : Nat} {Post : Option Value → AH → Nat → Prop} {o n m t op cd sg wa wg wo : Nat} {wp : Int32} {u : Nat → Nat} {w1 w2 g : Nat → Int32} {fs : List Value} (hX : XC G ∧ TX l G) (hP0 : PRs h o fs ((t, op, cd, sg), (wa, wg, wo, wp))) (hT : tokM h o u n m) (hu : ∀ i, u i < 256) (ht : t < m) (hm : m ≤ 401) (hE : tkEnd u n m) (h29 : h (o + 1 + 29) = some (.inl (0, 400, .inl w1))) (h30 : h (o + 1 + 30) = some (.inl (0, 400, .inl w2))) (h27 : h (o + 1 + 27) = some (.inl (0, 2100, .inl g))) (hwa : wa < 400) (hcd : cd < 2100) (hB : ∀ (j f : Nat) (h1 : AH) (fs1 : List Value), (unF (kdN u n) t j f ∨ ∃ b, unA (kdN u n) t j b ∧ kdN u n j = 2 ∧ j = 400 ∧ f = 2) → PFl h1 o fs1 f (plN u n j) → pfF fs fs1 → ((∀ x, x ≠ o → h1 x = h x) ∨ ((∀ x, x ≠ o → x ≠ o + 1 + 27 → x ≠ o + 1 + 29 → x ≠ o + 1 + 30 → h1 x = h x) ∧ ∃ v, h1 (o + 1 + 27) = some (.inl (0, 2100, .inl (upd g cd v))))) → Post none h1 nx) (hP : ∀ (b : Bool) (j : Nat) (h1 : AH) (fs1 : List Value), unA (kdN u n) t j b → kdN u n j = 2 → j < 400 → PRs h1 o fs1 ((j + 1, op, cd + 1, sg), (wa + 1, wg, wo, wp)) → pfF fs fs1 → (∀ x, x ≠ o → x ≠ o + 1 + 27 → x ≠ o + 1 + 29 → x ≠ o + 1 + 30 → h1 x = h x) → h1 (o + 1 + 27) = some (.inl (0, 2100, .inl (upd g cd (nI (60 + b.toNat))))) → h1 (o + 1 + 29) = some (.inl (0, 400, .inl (upd w1 wa (nI j)))) → h1 (o + 1 + 30) = some (.inl (0, 400, .inl (upd w2 wa (nI cd)))) → Post none h1 nx) : Runs l G i_X12_unit 0 0 [.ref o, .int (-1)] h nx Post := by
  refine m_unitHd hX hP0 hT hu ht hm hE (fun j f h1 fs1 a1 a2 a3 a4 => hB j f h1 fs1 (Or.inl a1) a2 a3 (Or.inl a4)) (fun b j h1 fs1 hb hk hj z1 z2 z3 => ?_)
  have c45 : fs1[45]? = some (.int (nI wa)) := z1.2.2.2.2.2.2.2.1
  have c41 : fs1[41]? = some (.int (nI cd)) := z1.2.2.2.2.2.1
  have c11 : fs1[11]? = some (.int (nI j)) := z1.2.2.2.1
  have r29 := (z3 _ (by omega)).trans h29
  have r30 := (z3 _ (by omega)).trans h30
  have r27 := (z3 _ (by omega)).trans h27
  have Q1 := z1.row (j := 29) (e := .inl (0, 400, .inl (upd w1 wa (nI j)))) (rowS_i (by decide) rfl ⟨_, rfl⟩)
  have Q2 := Q1.row (j := 30) (e := .inl (0, 400, .inl (upd w2 wa (nI cd)))) (rowS_i (by decide) rfl ⟨_, rfl⟩)
  have Q3 := Q2.a (w2 := wa + 1)
  refine Go.of hX.2 ck_X12_unit [90] 60 ?_
  refine And.intro (fun cz => by first | exact absurd cz (by decide) | exact absurd (by decide) cz) (fun _ => ?_)
  refine Exists.intro _ (And.intro z1.1.1 (Exists.intro _ (And.intro (z1.1.2.2 29 (by decide)) ?_)))
  refine Exists.intro _ (And.intro z1.1.1 (Exists.intro _ (And.intro c45 ?_)))
  refine Exists.intro _ (And.intro z1.1.1 (Exists.intro _ (And.intro c11 ?_)))
  refine Exists.intro _ (Exists.intro _ (And.intro r29 (And.intro (vp_in_nI hwa (by decide)) ?_)))
  rw [nI_clamp (show wa < 2 ^ 31 by omega)]
  refine Exists.intro _ (And.intro Q1.1.1 (Exists.intro _ (And.intro (z1.1.2.2 30 (by decide)) ?_)))
  refine Exists.intro _ (And.intro Q1.1.1 (Exists.intro _ (And.intro c45 ?_)))
  refine Exists.intro _ (And.intro Q1.1.1 (Exists.intro _ (And.intro c41 ?_)))
  refine Exists.intro _ (Exists.intro _ (And.intro ((uph_ne (by omega)).trans r30) (And.intro (vp_in_nI hwa (by decide)) ?_)))
  rw [nI_clamp (show wa < 2 ^ 31 by omega)]
  refine Exists.intro _ (And.intro Q2.1.1 (Exists.intro _ (And.intro c45 ?_)))
  refine Exists.intro _ (And.intro Q2.1.1 (And.intro (by rw [z1.1.2.1]; decide) (And.intro rfl (And.intro rfl ?_))))
  rw [show nI wa + 1 = nI (wa + 1) from (nI_succ wa).symm]
  generalize hh : uph (uph (uph h1 (o + 1 + 29) (.inl (0, 400, .inl (upd w1 wa (nI j))))) (o + 1 + 30) (.inl (0, 400, .inl (upd w2 wa (nI cd))))) o (.inr (12, fs1.set 45 (.int (nI (wa + 1))))) = H at Q3
  have H29 : H (o + 1 + 29) = some (.inl (0, 400, .inl (upd w1 wa (nI j)))) := by rw [← hh, uph_ne (by omega), uph_ne (by omega)]; exact uph_eq
  have H30 : H (o + 1 + 30) = some (.inl (0, 400, .inl (upd w2 wa (nI cd)))) := by rw [← hh, uph_ne (by omega)]; exact uph_eq
  have Hf : ∀ x, x ≠ o → x ≠ o + 1 + 29 → x ≠ o + 1 + 30 → H x = h x := fun x x1 x2 x3 => by rw [← hh, uph_ne x1, uph_ne x3, uph_ne x2]; exact z3 x x1
  have H27 : H (o + 1 + 27) = some (.inl (0, 2100, .inl g)) := (Hf _ (by omega) (by omega) (by omega)).trans h27
  have HF : pfF fs (fs1.set 45 (.int (nI (wa + 1)))) := z2.st (by omega)
  have endU : ∀ (h2 : AH) (fs2 : List Value), PRs h2 o fs2 ((j, op, cd + 1, sg), (wa + 1, wg, wo, wp)) → pfF (fs1.set 45 (.int (nI (wa + 1)))) fs2 → h2 (o + 1 + 27) = some (.inl (0, 2100, .inl (upd g cd (nI (60 + b.toNat))))) → (∀ x, x ≠ o → x ≠ o + 1 + 27 → h2 x = H x) → Go l G 12 s_X12_unit 0 0 Post 93 [(2, .int (nI b.toNat)), (0, .ref o), (1, .int (-1))] [] h2 nx 0 0 := by
    intro h2 fs2 y1 y2 y3 y4
    have T2 : tokM h2 o u n m := hT.ag (fun x x1 x2 => (y4 x (by omega) (by omega)).trans (Hf x (by omega) (by omega) (by omega)))
    have f2 : ∀ x, x ≠ o → x ≠ o + 1 + 27 → x ≠ o + 1 + 29 → x ≠ o + 1 + 30 → h2 x = h x := fun x x1 x2 x3 x4 => (y4 x x1 x2).trans (Hf x x1 x3 x4)
    refine Go.of hX.2 ck_X12_unit [] 20 ?_
    refine Exists.intro _ (And.intro y1.1.1 (Exists.intro 0 (Exists.intro 0 (And.intro (Nat.le_refl _) (And.intro (Nat.le_refl _) (m_goesOn hX y1 T2 hj hm (fun e h3 fs3 v1 v2 v3 => ?_) (fun e h3 fs3 v1 v2 v3 => ?_)))))))
    · exact hB j 2 h3 fs3 (Or.inr ⟨b, hb, hk, e, rfl⟩) v1 ((HF.tr y2).tr v2) (Or.inr ⟨fun x x1 x2 x3 x4 => (v3 x x1).trans (f2 x x1 x2 x3 x4), _, (v3 _ (by omega)).trans y3⟩)
    · exact hP b j h3 fs3 hb hk e v1 ((HF.tr y2).tr v2) (fun x x1 x2 x3 x4 => (v3 x x1).trans (f2 x x1 x2 x3 x4)) ((v3 _ (by omega)).trans y3) ((v3 _ (by omega)).trans ((y4 _ (by omega) (by omega)).trans H29)) ((v3 _ (by omega)).trans ((y4 _ (by omega) (by omega)).trans H30))
  cases b with
  | true =>
    refine And.intro (fun cz => by first | exact absurd cz (by decide) | exact absurd (by decide) cz) (fun _ => ?_)
    refine go_loc (lv' := [(2, .int (nI true.toNat)), (0, .ref o), (1, .int (-1))]) ⟨rfl, rfl, rfl, trivial⟩ ?_
    refine Go.of hX.2 ck_X12_unit [93] 20 ?_
    refine Exists.intro _ (And.intro Q3.1.1 (Exists.intro 0 (Exists.intro 0 (And.intro (Nat.le_refl _) (And.intro (Nat.le_refl _) (m_emit (k := 61) hX Q3 H27 hcd (fun h2 fs2 y1 y2 y3 y4 => ?_)))))))
    exact go_loc (lv' := [(2, .int (nI true.toNat)), (0, .ref o), (1, .int (-1))]) ⟨rfl, rfl, rfl, trivial⟩ (endU h2 fs2 y1 y2 y3 y4)
  | false =>
    refine And.intro (fun _ => ?_) (fun cz => by first | exact absurd cz (by decide) | exact absurd (by decide) cz)
    refine go_loc (lv' := [(2, .int (nI false.toNat)), (0, .ref o), (1, .int (-1))]) ⟨rfl, rfl, rfl, trivial⟩ ?_
    refine Go.of hX.2 ck_X12_unit [93] 20 ?_
    refine Exists.intro _ (And.intro Q3.1.1 (Exists.intro 0 (Exists.intro 0 (And.intro (Nat.le_refl _) (And.intro (Nat.le_refl _) (m_emit (k := 60) hX Q3 H27 hcd (fun h2 fs2 y1 y2 y3 y4 => ?_)))))))
    exact go_loc (lv' := [(2, .int (nI false.toNat)), (0, .ref o), (1, .int (-1))]) ⟨rfl, rfl, rfl, trivial⟩ (endU h2 fs2 y1 y2 y3 y4)
