/-! the model reads a circuit -/
def jsC : List Nat := [18, 19, 21, 22, 27, 29, 30, 31]
theorem jsU_C : ∀ j ∈ jsU, j ∈ jsC := by decide
theorem PRs.sg {h : AH} {o t op cd sg wa wg wo s2 : Nat} {wp : Int32} {fs : List Value} (P : PRs h o fs ((t, op, cd, sg), (wa, wg, wo, wp))) : PRs (uph h o (.inr (12, fs.set 43 (.int (nI s2))))) o (fs.set 43 (.int (nI s2))) ((t, op, cd, s2), (wa, wg, wo, wp)) := by
  obtain ⟨a, b, c13, c11, c12, c41, c43, c45, c49, c15, c16⟩ := P
  exact ⟨a.pst (by omega), b.obj, by rw [get_set_ne (by decide)]; exact c13, by rw [get_set_ne (by decide)]; exact c11, by rw [get_set_ne (by decide)]; exact c12, by rw [get_set_ne (by decide)]; exact c41, get_set (by rw [a.2.1]; decide), by rw [get_set_ne (by decide)]; exact c45, by rw [get_set_ne (by decide)]; exact c49, by rw [get_set_ne (by decide)]; exact c15, by rw [get_set_ne (by decide)]; exact c16⟩
theorem gCn_s {kd : Nat → Nat} {i : Nat} (h : 10 ≤ zS (zz kd i)) (hk : kd i ≠ 12) : gCn kd (i + 1) = gCn kd i + 1 := by
  show gCn kd i + (if 10 ≤ zS (zz kd i) ∧ kd i ≠ 12 then 1 else 0) = _
  rw [if_pos ⟨h, hk⟩]
theorem gCn_m {kd : Nat → Nat} {a b : Nat} (h : a ≤ b) : gCn kd a ≤ gCn kd b := by
  obtain ⟨m, rfl⟩ := Nat.exists_eq_add_of_le h
  induction m with
  | zero => exact Nat.le_refl _
  | succ m ih =>
    have := ih (by omega)
    show gCn kd a ≤ gCn kd (a + m) + _
    omega
set_option maxHeartbeats 8000000 in
/-- the circuit's signs are copied -/
theorem m_signs {l : Launch} {G : GG} {h : AH} {nx : Nat} {Post : Option Value → AH → Nat → Prop} {o d n m a j c wa wg wo : Nat} {wp ow : Int32} {u : Nat → Nat} {cd : Nat} {fs : List Value} {gs : Nat → Int64} {gt : Nat → Int32} (hX : XC G ∧ TX l G) (hP0 : PRs h o fs ((j, 0, cd, 420 * d + gCn (kdN u n) a), (wa, wg, wo, wp))) (hT : tokM h o u n m) (hu : ∀ i, u i < 256) (hjm : j < m) (hm : m ≤ 401) (haj : a ≤ j) (hi : inC (kdN u n) a j) (h28 : h (o + 1 + 28) = some (.inl (1, 2100, .inr (.inl gs)))) (h26 : h (o + 1 + 26) = some (.inl (0, 85, .inl gt))) (hd : d < 4) (hc : 17 * d + c < 85) {w1 w2 : Int32} (hP : ∀ (h1 : AH) (fs1 : List Value) (gs1 : Nat → Int64), PRs h1 o fs1 ((j, 0, cd, 420 * d + gCn (kdN u n) j), (wa, wg, wo, wp)) → pfF fs fs1 → (∀ x, x ≠ o → x ≠ o + 1 + 28 → x ≠ o + 1 + 26 → h1 x = h x) → h1 (o + 1 + 28) = some (.inl (1, 2100, .inr (.inl gs1))) → (∀ x, x < 420 * d + gCn (kdN u n) a → gs1 x = gs x) → (∀ i, a ≤ i → i < j → gs1 (420 * d + gCn (kdN u n) i) = sgT (kdN u n) (vaN u n) i) → h1 (o + 1 + 26) = some (.inl (0, 85, .inl (upd gt (17 * d + c) (nI (420 * d + gCn (kdN u n) j))))) → Post none h1 nx) : Go l G 12 s_X12_circuit 0 0 Post 186 [(6, .int (nI a)), (5, .int w1), (4, .int w2), (3, .int (nI (17 * d + c))), (0, .ref o), (2, .int ow)] [] h nx 0 0 := by
  have hk1 : ∀ i, mkK (kdN u n i) = 1 ↔ kdN u n i = 2 := fun i => (kk9 (kdN_lt hu n) i).2.2.2.2.2
  obtain ⟨q2, q3, q4, q5, a2, a3, a4, a5, p⟩ := id hT
  have loop : ∀ (k i : Nat) (h1 : AH) (fs1 : List Value) (gs1 : Nat → Int64), i + k = j → a ≤ i → PRs h1 o fs1 ((j, 0, cd, 420 * d + gCn (kdN u n) i), (wa, wg, wo, wp)) → pfF fs fs1 → (∀ x, x ≠ o → x ≠ o + 1 + 28 → h1 x = h x) → h1 (o + 1 + 28) = some (.inl (1, 2100, .inr (.inl gs1))) → (∀ x, x < 420 * d + gCn (kdN u n) a → gs1 x = gs x) → (∀ q, a ≤ q → q < i → gs1 (420 * d + gCn (kdN u n) q) = sgT (kdN u n) (vaN u n) q) → Go l G 12 s_X12_circuit 0 0 Post 186 [(6, .int (nI i)), (5, .int w1), (4, .int w2), (3, .int (nI (17 * d + c))), (0, .ref o), (2, .int ow)] [] h1 nx 0 0 := by
    intro k
    induction k with
    | zero =>
      intro i h1 fs1 gs1 e ha y1 y2 y3 y4 y5 y6
      have e : i = j := by omega
      subst e
      have c11 : fs1[11]? = some (.int (nI i)) := y1.2.2.2.1
      have c43 : fs1[43]? = some (.int (nI (420 * d + gCn (kdN u n) i))) := y1.2.2.2.2.2.2.1
      refine Go.of hX.2 ck_X12_circuit [] 40 ?_
      refine Exists.intro _ (And.intro y1.1.1 (Exists.intro _ (And.intro c11 ?_)))
      refine And.intro (fun _ => ?_) (fun cz => absurd (nI_le (Nat.le_refl i) (by omega)) cz)
      refine Exists.intro _ (And.intro y1.1.1 (Exists.intro _ (And.intro (y1.1.2.2 26 (by decide)) ?_)))
      refine Exists.intro _ (And.intro y1.1.1 (Exists.intro _ (And.intro c43 ?_)))
      refine Exists.intro _ (Exists.intro _ (And.intro ((y3 _ (by omega) (by omega)).trans h26) (And.intro (vp_in_nI hc (by decide)) ?_)))
      rw [nI_clamp (show 17 * d + c < 2 ^ 31 by omega)]
      have Q := y1.row (j := 26) (e := .inl (0, 85, .inl (upd gt (17 * d + c) (nI (420 * d + gCn (kdN u n) i))))) (rowS_i (by decide) rfl ⟨_, rfl⟩)
      exact hP _ fs1 gs1 Q y2 (fun x x1 x2 x3 => (uph_ne x3).trans (y3 x x1 x2)) ((uph_ne (by omega)).trans y4) y5 y6 uph_eq
    | succ k ih =>
      intro i h1 fs1 gs1 e ha y1 y2 y3 y4 y5 y6
      have hij : i < j := by omega
      obtain ⟨s10, s12⟩ := hi i ha hij
      have c11 : fs1[11]? = some (.int (nI j)) := y1.2.2.2.1
      have c43 : fs1[43]? = some (.int (nI (420 * d + gCn (kdN u n) i))) := y1.2.2.2.2.2.2.1
      have gl := gCn_le (kdN u n) i
      have b2 := (y3 _ (by omega) (by omega)).trans a2
      have b5 := (y3 _ (by omega) (by omega)).trans a5
      have P1 := y1.row (j := 28) (e := .inl (1, 2100, .inr (.inl (vp_updL gs1 (420 * d + gCn (kdN u n) i) (sgT (kdN u n) (vaN u n) i))))) ⟨_, rfl⟩
      have P2 := P1.sg (s2 := 420 * d + gCn (kdN u n) (i + 1))
      have nxt := ih (i + 1) _ _ (vp_updL gs1 (420 * d + gCn (kdN u n) i) (sgT (kdN u n) (vaN u n) i)) (by omega) (by omega) P2 (y2.st (by omega)) (fun x x1 x2 => (uph_ne x1).trans ((uph_ne x2).trans (y3 x x1 x2))) ((uph_ne (by omega)).trans uph_eq) (fun x hx => (pk_uLn (by
        have : gCn (kdN u n) a ≤ gCn (kdN u n) i := gCn_m ha
        omega)).trans (y5 x hx)) (fun q q1 q2 => by
        by_cases eq : q = i
        · rw [eq]; exact pk_uLs
        · obtain ⟨t10, t12⟩ := hi q q1 (by omega)
          have : gCn (kdN u n) (q + 1) ≤ gCn (kdN u n) i := gCn_m (by omega)
          rw [gCn_s t10 t12] at this
          rw [pk_uLn (by omega)]
          exact y6 q q1 (by omega))
      rw [nI_succ i] at nxt
      have end233 : ∀ v : Int64, v = sgT (kdN u n) (vaN u n) i → Go l G 12 s_X12_circuit 0 0 Post 233 [(6, .int (nI i)), (5, .int w1), (4, .int w2), (3, .int (nI (17 * d + c))), (0, .ref o), (2, .int ow)] [.long v, .int (nI (420 * d + gCn (kdN u n) i)), .ref (o + 1 + 28)] h1 nx 0 0 := by
        intro v hv
        subst hv
        refine Go.of hX.2 ck_X12_circuit [186] 40 ?_
        refine Exists.intro _ (Exists.intro _ (And.intro y4 (And.intro (vp_in_nI (show 420 * d + gCn (kdN u n) i < 2100 by omega) (by decide)) ?_)))
        rw [nI_clamp (show 420 * d + gCn (kdN u n) i < 2 ^ 31 by omega)]
        have P1c : fs1[43]? = some (.int (nI (420 * d + gCn (kdN u n) i))) := c43
        refine Exists.intro _ (And.intro P1.1.1 (Exists.intro _ (And.intro P1c ?_)))
        refine Exists.intro _ (And.intro P1.1.1 (And.intro (by rw [P1.1.2.1]; decide) (And.intro rfl (And.intro rfl ?_))))
        rw [show nI (420 * d + gCn (kdN u n) i) + 1 = nI (420 * d + gCn (kdN u n) (i + 1)) from by rw [gCn_s s10 s12, ← nI_succ]; rfl]
        exact go_loc (lv' := [(6, .int (nI i + 1)), (5, .int w1), (4, .int w2), (3, .int (nI (17 * d + c))), (0, .ref o), (2, .int ow)]) ⟨rfl, rfl, rfl, rfl, rfl, rfl, trivial⟩ (nxt)
      refine Go.of hX.2 ck_X12_circuit [233] 40 ?_
      refine Exists.intro _ (And.intro y1.1.1 (Exists.intro _ (And.intro c11 ?_)))
      refine And.intro (fun cz => absurd cz (nI_ge (a := i) (b := j) hij (by omega))) (fun _ => ?_)
      refine Exists.intro _ (And.intro y1.1.1 (Exists.intro _ (And.intro (y1.1.2.2 28 (by decide)) ?_)))
      refine Exists.intro _ (And.intro y1.1.1 (Exists.intro _ (And.intro c43 ?_)))
      refine Exists.intro _ (And.intro y1.1.1 (Exists.intro _ (And.intro (y1.1.2.2 2 (by decide)) ?_)))
      refine Exists.intro _ (Exists.intro _ (And.intro b2 (And.intro (vp_in_nI (show i < 403 by omega) (by decide)) ?_)))
      rw [nI_clamp (show i < 2 ^ 31 by omega), (p i (by omega)).1]
      by_cases c2 : kdN u n i = 2
      · refine And.intro (fun cz => absurd (show nI (mkK (kdN u n i)) = 1 from by rw [c2]; rfl) cz) (fun _ => ?_)
        refine Exists.intro _ (And.intro y1.1.1 (Exists.intro _ (And.intro (y1.1.2.2 5 (by decide)) ?_)))
        refine Exists.intro _ (Exists.intro _ (And.intro b5 (And.intro (vp_in_nI (show i < 403 by omega) (by decide)) ?_)))
        rw [nI_clamp (show i < 2 ^ 31 by omega), (p i (by omega)).2.2.2 c2]
        exact go_loc (lv' := [(6, .int (nI i)), (5, .int w1), (4, .int w2), (3, .int (nI (17 * d + c))), (0, .ref o), (2, .int ow)]) ⟨rfl, rfl, rfl, rfl, rfl, rfl, trivial⟩ (end233 (vaN u n i) (by unfold sgT; rw [if_pos c2]))
      · refine And.intro (fun _ => ?_) (fun cz => absurd cz (fun z => c2 ((hk1 i).mp ((nI_eq (by have := mkK_lt _ (kdN_lt hu n i); omega) (by decide)).mp z))))
        refine Exists.intro _ (And.intro y1.1.1 (Exists.intro _ (And.intro (y1.1.2.2 2 (by decide)) ?_)))
        refine Exists.intro _ (Exists.intro _ (And.intro b2 (And.intro (vp_in_nI (show i < 403 by omega) (by decide)) ?_)))
        rw [nI_clamp (show i < 2 ^ 31 by omega), (p i (by omega)).1]
        exact go_loc (lv' := [(6, .int (nI i)), (5, .int w1), (4, .int w2), (3, .int (nI (17 * d + c))), (0, .ref o), (2, .int ow)]) ⟨rfl, rfl, rfl, rfl, rfl, rfl, trivial⟩ (end233 _ (by unfold sgT; rw [if_neg c2]))
  exact loop (j - a) a h fs gs (by omega) (Nat.le_refl a) hP0 (pfF.rf fs) (fun _ _ _ => rfl) h28 (fun _ _ => rfl) (fun q q1 q2 => by omega)
