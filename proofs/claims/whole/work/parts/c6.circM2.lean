/-! the model reads a circuit, its loop -/
theorem wN_m {kd : Nat → Nat} {a b : Nat} (h : a ≤ b) : wN kd a ≤ wN kd b := by
  obtain ⟨m, rfl⟩ := Nat.exists_eq_add_of_le h
  induction m with
  | zero => exact Nat.le_refl _
  | succ m ih =>
    have := ih (by omega)
    show wN kd a ≤ wN kd (a + m) + _
    omega
/-- no names stand where their counts stay -/
theorem no_nm {kd : Nat → Nat} (hkd : ∀ i, kd i < 19) {a b : Nat} (ha : ∀ j, j < b → zok kd j) (hw : wN kd b = wN kd a) (hk : zK (zz kd b) = zK (zz kd a)) : ∀ i, i < b → i < a ∨ (wQ kd i = false ∧ ¬ (zC (zz kd i) = true ∧ kd i = 2)) := fun i hi => by
  rcases Nat.lt_or_ge i a with z | z
  · exact Or.inl z
  · refine Or.inr ⟨?_, fun y => ?_⟩
    · cases hq : wQ kd i with
      | false => rfl
      | true =>
        have h1 := wN_lt hq hi
        have h2 := wN_m (kd := kd) z
        omega
    · have h1 := zK_lt hkd ha hi y.1 y.2
      have h2 := (z_mono hkd ha z (by omega)).2.2.2.2
      omega
theorem rwC.apps {h1 : AH} {o b : Nat} {kd : Nat → Nat} {L e : List Nat} {g g2 : Nat → Int32} (hg : ∀ p, p < L.length → g (b + p) = nI (cvB kd (L.getD p 0))) (h1e : h1 (o + 1 + 27) = some (.inl (0, 2100, .inl g2))) (hlo : ∀ x, x < b + L.length → g2 x = g x) (hq : rowQ g2 (b + L.length) e) (he : ∀ x ∈ e, x < 1000) : rwC h1 o b (cvB kd) (L ++ e) := by
  refine ⟨_, h1e, fun p hp => ?_⟩
  rw [List.length_append] at hp
  by_cases c : p < L.length
  · rw [hlo _ (by omega), hg p c, List.getD_eq_getElem?_getD, List.getD_eq_getElem?_getD, List.getElem?_append_left c]
  · obtain ⟨q, rfl⟩ : ∃ q, p = L.length + q := ⟨p - L.length, by omega⟩
    have hq1 := hq q (by omega)
    rw [← Nat.add_assoc, hq1, List.getD_eq_getElem?_getD, List.getD_eq_getElem?_getD, List.getElem?_append_right (by omega), Nat.add_sub_cancel_left]
    have hql : q < e.length := by omega
    have hm : e[q]?.getD 0 < 1000 := by
      rw [List.getElem?_eq_getElem hql]
      exact he _ (List.getElem_mem hql)
    unfold cvB
    rw [if_pos hm]
theorem GSt.of {kd : Nat → Nat} {o d t sg wo : Nat} {wp : Int32} {h0 h : AH} {fs0 fs : List Value} {W L : List Nat} {g : Nat → Int32} (S : MRs kd o d h0 fs0 h fs t sg wo wp W L) (hg : h (o + 1 + 27) = some (.inl (0, 2100, .inl g))) : GSt h fs g o (420 * d + L.length) (420 * d + sg) (wN kd t) wo wp h fs t (opC W) W [] := by
  obtain ⟨P, F, K0, k31, _⟩ := S
  exact ⟨P, k31, ⟨g, hg, fun _ _ => rfl, fun i hi => absurd hi (Nat.not_lt_zero i)⟩, pfF.rf fs, fun _ _ _ _ => rfl⟩
/-- back from what goes left -/
theorem MRs.ofG {kd : Nat → Nat} (hkd : ∀ i, kd i < 19) {o d t t' sg wo : Nat} {wp : Int32} {h0 h h1 : AH} {fs0 fs fs1 : List Value} {W L W' e : List Nat} {g : Nat → Int32} (S : MRs kd o d h0 fs0 h fs t sg wo wp W L) (hg : h (o + 1 + 27) = some (.inl (0, 2100, .inl g))) (H : GSt h fs g o (420 * d + L.length) (420 * d + sg) (wN kd t) wo wp h1 fs1 t' (opC W') W' e) (ha : ∀ j, j < t' → zok kd j) (hw : wN kd t' = wN kd t) (hk : zK (zz kd t') = zK (zz kd t)) (he : ∀ x ∈ e, x < 1000) : MRs kd o d h0 fs0 h1 fs1 t' sg wo wp W' (L ++ e) := by
  obtain ⟨P, F, K0, _, ⟨g2, r2, q2⟩⟩ := S
  rw [hg] at r2
  cases r2
  obtain ⟨P1, k31, ⟨g27, r27, lo, q27⟩, f1, fr⟩ := H
  refine ⟨?_, F.up [27, 31] f1 (fun x y1 y2 => fr x y1 (y2 27 (by decide)) (y2 31 (by decide))) ⟨⟨by decide, by decide, fun _ => rowZ.i hg r27 (fun x hx => lo x (by have hx : x < 420 * d := hx; omega))⟩, ⟨by decide, by decide, fun z => absurd z (by decide)⟩, True.intro⟩, ?_, k31, rwC.apps q2 r27 lo q27 he⟩
  · rw [hw, List.length_append, ← Nat.add_assoc]
    exact P1
  · exact (K0.ag (fun j hj => fr _ (by omega) (by omega) (by omega))).stay hk (no_nm hkd ha hw hk)
set_option maxHeartbeats 16000000 in
set_option maxHeartbeats 8000000 in
theorem m_circuit {l : Launch} {G : GG} {h : AH} {nx : Nat} {Post : Option Value → AH → Nat → Prop} {o d c n m N a wo : Nat} {wp ow cx : Int32} {u : Nat → Nat} {h0 : AH} {fs fs0 : List Value} {g23 g24 g25 g26 : Nat → Int32} {gs : Nat → Int64} (hX : XC G ∧ TX l G) (hM : MRt (kdN u n) o d h0 fs0 h fs a wo wp) (hcx : cx = nI c) (hT : tokM h o u n m) (hu : ∀ i, u i < 256) (hn : n ≤ 2000) (ham : a < m) (hm : m ≤ 401) (hE : tkEnd u n m) (hZ : zEnd (kdN u n) N) (ha : ∀ j, j < a → zok (kdN u n) j) (hs : zS (zz (kdN u n) a) = 10) (hd0 : zD (zz (kdN u n) a) = 0) (hc0 : (cG (kdN u n) a).1 = []) (f20 : fs[20]? = some (.int (nI d))) (hd : d < 4) (hc : c < 17) (how : (zT (zz (kdN u n) a) = 10 ∧ ow = -1) ∨ (zT (zz (kdN u n) a) ≠ 10 ∧ ow = nI (mOw (zz (kdN u n) a)) ∧ mOw (zz (kdN u n) a) < 16)) (h23 : h (o + 1 + 23) = some (.inl (0, 85, .inl g23))) (h24 : h (o + 1 + 24) = some (.inl (0, 85, .inl g24))) (h25 : h (o + 1 + 25) = some (.inl (0, 85, .inl g25))) (h26 : h (o + 1 + 26) = some (.inl (0, 85, .inl g26))) (h28 : h (o + 1 + 28) = some (.inl (1, 2100, .inr (.inl gs)))) (hB : ∀ (h1 : AH) (fs1 : List Value), PFl h1 o fs1 (zFt (kdN u n) N) (plN u n N) → FRM o d h0 fs0 h1 fs1 → Post none h1 nx) (hP : ∀ (j : Nat) (h1 : AH) (fs1 : List Value) (gs1 : Nat → Int64), a < j → j < m → (∀ i, i < j → zok (kdN u n) i) → inC (kdN u n) a j → zS (zz (kdN u n) j) = 12 → zD (zz (kdN u n) j) = 0 → kdN u n j ≠ 15 → kdN u n j ≠ 16 → MRs (kdN u n) o d h0 fs0 h1 fs1 j (gCn (kdN u n) j) wo wp [] ((cG (kdN u n) j).2 ++ (gsA 4 (cG (kdN u n) j).1).2) → pfF fs fs1 → (∀ k, (7 ≤ k ∧ k < 18) ∨ k = 20 → h1 (o + 1 + k) = h (o + 1 + k)) → h1 (o + 1 + 23) = some (.inl (0, 85, .inl (upd g23 (17 * d + c) (nI (420 * d + (cG (kdN u n) a).2.length))))) → h1 (o + 1 + 24) = some (.inl (0, 85, .inl (upd g24 (17 * d + c) (nI (420 * d + ((cG (kdN u n) j).2 ++ (gsA 4 (cG (kdN u n) j).1).2).length))))) → h1 (o + 1 + 25) = some (.inl (0, 85, .inl (upd g25 (17 * d + c) (nI (420 * d + gCn (kdN u n) a))))) → h1 (o + 1 + 26) = some (.inl (0, 85, .inl (upd g26 (17 * d + c) (nI (420 * d + gCn (kdN u n) j))))) → h1 (o + 1 + 28) = some (.inl (1, 2100, .inr (.inl gs1))) → (∀ x, x < 420 * d + gCn (kdN u n) a → gs1 x = gs x) → (∀ i, a ≤ i → i < j → gs1 (420 * d + gCn (kdN u n) i) = sgT (kdN u n) (vaN u n) i) → Post none h1 nx) : Runs l G i_X12_circuit 0 0 [.ref o, .int cx, .int ow] h nx Post := by
  subst hcx
  have hkd := kdN_lt hu n
  obtain ⟨⟨wg0, P0⟩, F0, K00, C00⟩ := hM
  have hg0 := gCn_le (kdN u n) a
  have hz0 := zW_all hkd ha
  have ei : (17 : Int32) * nI d + nI c = nI (17 * d + c) := by rw [show (17 : Int32) = nI 17 from rfl, nI_mul, nI_add]
  have hc85 : 17 * d + c < 85 := by omega
  -- behind a fault
  have bad : ∀ (h1 : AH) (fs1 : List Value) (b : Bool) (f q : Nat), PFl h1 o fs1 f q → f = zFt (kdN u n) N → q = plN u n N → FRM o d h0 fs0 h1 fs1 → Go l G 12 s_X12_circuit 0 0 Post 55 [(5, .int (nI b.toNat)), (4, .int (nI a)), (3, .int (nI (17 * d + c))), (0, .ref o), (2, .int ow)] [] h1 nx 0 0 := by
    intro h1 fs1 b f q x1 x2 x3 x4
    have fb := x1.2.2.2.2
    have n0 : ¬ nI f = 0 := fun z => by
      have := (nI_eq (a := f) (b := 0) (by omega) (by omega)).mp z
      omega
    have hB1 := hB h1 fs1 (by rw [← x2, ← x3]; exact x1) x4
    refine Go.of hX.2 ck_X12_circuit [] 20 ?_
    cases b with
    | false =>
      refine And.intro (fun _ => ?_) (fun cz => by first | exact absurd cz (by decide) | exact absurd (by decide) cz)
      refine Exists.intro _ (And.intro x1.1.1 (Exists.intro _ (And.intro x1.2.2.1 ?_)))
      refine And.intro (fun cz => absurd cz (show ¬ nI f ≤ 0 from nI_ge (a := 0) fb.1 (by omega))) (fun _ => ?_)
      exact hB1
    | true =>
      refine And.intro (fun cz => by first | exact absurd cz (by decide) | exact absurd (by decide) cz) (fun _ => ?_)
      refine Exists.intro _ (And.intro x1.1.1 (Exists.intro _ (And.intro x1.2.2.1 ?_)))
      refine And.intro (fun _ => ?_) (fun cz => absurd cz (n0))
      refine Exists.intro _ (And.intro x1.1.1 (Exists.intro _ (And.intro x1.2.2.1 ?_)))
      refine And.intro (fun cz => absurd cz (show ¬ nI f ≤ 0 from nI_ge (a := 0) fb.1 (by omega))) (fun _ => ?_)
      exact hB1
  -- behind the header
  have at10 : ∀ v, v = nI (17 * d + c) → Go l G 12 s_X12_circuit 0 0 Post 10 [(3, .int v), (0, .ref o), (2, .int ow)] [] h nx 0 0 := by
    intro v hv
    subst hv
    have c41 : fs[41]? = some (.int (nI (420 * d + (cG (kdN u n) a).2.length))) := P0.2.2.2.2.2.1
    have c43 : fs[43]? = some (.int (nI (420 * d + gCn (kdN u n) a))) := P0.2.2.2.2.2.2.1
    have c11 : fs[11]? = some (.int (nI a)) := P0.2.2.2.1
    have Q1 := P0.row (j := 23) (e := .inl (0, 85, .inl (upd g23 (17 * d + c) (nI (420 * d + (cG (kdN u n) a).2.length))))) (rowS_i (by decide) rfl ⟨_, rfl⟩)
    have Q2 := Q1.row (j := 25) (e := .inl (0, 85, .inl (upd g25 (17 * d + c) (nI (420 * d + gCn (kdN u n) a))))) (rowS_i (by decide) rfl ⟨_, rfl⟩)
    have Q3 : PRs (uph (uph (uph h (o + 1 + 23) (.inl (0, 85, .inl (upd g23 (17 * d + c) (nI (420 * d + (cG (kdN u n) a).2.length)))))) (o + 1 + 25) (.inl (0, 85, .inl (upd g25 (17 * d + c) (nI (420 * d + gCn (kdN u n) a)))))) o (.inr (12, fs.set 49 (.int 0)))) o (fs.set 49 (.int 0)) ((a, 0, 420 * d + (cG (kdN u n) a).2.length, 420 * d + gCn (kdN u n) a), (wN (kdN u n) a, 0, wo, wp)) := Q2.g (w2 := 0)
    refine Go.of hX.2 ck_X12_circuit [55] 60 ?_
    refine Exists.intro _ (And.intro P0.1.1 (Exists.intro _ (And.intro (P0.1.2.2 23 (by decide)) ?_)))
    refine Exists.intro _ (And.intro P0.1.1 (Exists.intro _ (And.intro c41 ?_)))
    refine Exists.intro _ (Exists.intro _ (And.intro h23 (And.intro (vp_in_nI hc85 (by decide)) ?_)))
    rw [nI_clamp (show 17 * d + c < 2 ^ 31 by omega)]
    refine Exists.intro _ (And.intro Q1.1.1 (Exists.intro _ (And.intro (P0.1.2.2 25 (by decide)) ?_)))
    refine Exists.intro _ (And.intro Q1.1.1 (Exists.intro _ (And.intro c43 ?_)))
    refine Exists.intro _ (Exists.intro _ (And.intro ((uph_ne (by omega)).trans h25) (And.intro (vp_in_nI hc85 (by decide)) ?_)))
    rw [nI_clamp (show 17 * d + c < 2 ^ 31 by omega)]
    refine Exists.intro _ (And.intro Q2.1.1 (Exists.intro _ (And.intro c11 ?_)))
    refine Exists.intro _ (And.intro Q2.1.1 (And.intro (by rw [P0.1.2.1]; decide) (And.intro rfl (And.intro rfl ?_))))
    refine Exists.intro _ (And.intro Q3.1.1 (Exists.intro _ (And.intro Q3.2.2.1 ?_)))
    refine And.intro (fun cz => by first | exact absurd cz (by decide) | exact absurd (by decide) cz) (fun _ => ?_)
    generalize hh : uph (uph (uph h (o + 1 + 23) (.inl (0, 85, .inl (upd g23 (17 * d + c) (nI (420 * d + (cG (kdN u n) a).2.length)))))) (o + 1 + 25) (.inl (0, 85, .inl (upd g25 (17 * d + c) (nI (420 * d + gCn (kdN u n) a)))))) o (.inr (12, fs.set 49 (.int 0))) = H at Q3
    have H23 : H (o + 1 + 23) = some (.inl (0, 85, .inl (upd g23 (17 * d + c) (nI (420 * d + (cG (kdN u n) a).2.length))))) := by rw [← hh, uph_ne (by omega), uph_ne (by omega)]; exact uph_eq
    have H25 : H (o + 1 + 25) = some (.inl (0, 85, .inl (upd g25 (17 * d + c) (nI (420 * d + gCn (kdN u n) a))))) := by rw [← hh, uph_ne (by omega)]; exact uph_eq
    have Hf : ∀ x, x ≠ o → x ≠ o + 1 + 23 → x ≠ o + 1 + 25 → H x = h x := fun x x1 x2 x3 => by rw [← hh, uph_ne x1, uph_ne x3, uph_ne x2]
    have FH : FRM o d h0 fs0 H (fs.set 49 (.int 0)) := F0.up [23, 25] ((pfF.rf fs).st (by omega)) (fun x y1 y2 => Hf x y1 (y2 23 (by decide)) (y2 25 (by decide))) ⟨⟨by decide, by decide, fun _ => rowZ.u h23 H23 (show 17 * d ≤ _ by omega)⟩, ⟨by decide, by decide, fun _ => rowZ.u h25 H25 (show 17 * d ≤ _ by omega)⟩, True.intro⟩
    obtain ⟨g31, e31⟩ := Q3.2.1.i 31 (by decide) (by decide) rfl
    have S0 : MRs (kdN u n) o d h0 fs0 H (fs.set 49 (.int 0)) a (gCn (kdN u n) a) wo wp (cG (kdN u n) a).1 (cG (kdN u n) a).2 := by
      refine ⟨?_, FH, K00.ag (fun j hj => Hf _ (by omega) (by omega) (by omega)), ⟨g31, e31, ?_⟩, C00.ag (Hf _ (by omega) (by omega) (by omega))⟩
      · rw [hc0]; exact Q3
      · rw [hc0]; exact True.intro
    have F1 : pfF fs (fs.set 49 (.int 0)) := (pfF.rf fs).st (by omega)
    -- the end
    have fine : ∀ (j : Nat) (h1 : AH) (fs1 : List Value), a < j → j < m → (∀ i, i < j → zok (kdN u n) i) → inC (kdN u n) a j → zS (zz (kdN u n) j) = 12 → zD (zz (kdN u n) j) = 0 → kdN u n j ≠ 15 → kdN u n j ≠ 16 → MRs (kdN u n) o d h0 fs0 h1 fs1 j (gCn (kdN u n) a) wo wp [] ((cG (kdN u n) j).2 ++ (gsA 4 (cG (kdN u n) j).1).2) → pfF fs fs1 → (∀ x, x ≠ o → (∀ j ∈ jsC, x ≠ o + 1 + j) → h1 x = H x) → Go l G 12 s_X12_circuit 0 0 Post 55 [(5, .int (nI 0)), (4, .int (nI a)), (3, .int (nI (17 * d + c))), (0, .ref o), (2, .int ow)] [] h1 nx 0 0 := by
      intro j h1 fs1 y1 y2 y3 y4 y5 y6 y7 y8 y9 y10 y11
      obtain ⟨P, F, K0, k31, C0⟩ := y9
      have P : PRs h1 o fs1 ((j, 0, 420 * d + ((cG (kdN u n) j).2 ++ (gsA 4 (cG (kdN u n) j).1).2).length, 420 * d + gCn (kdN u n) a), (wN (kdN u n) j, 0, wo, wp)) := P
      have nj : ∀ k, k < 63 → (k ∉ jsC) → h1 (o + 1 + k) = H (o + 1 + k) := fun k hk hn => y11 _ (by omega) (fun i hi e => hn (by rw [show k = i by omega]; exact hi))
      have r24 : h1 (o + 1 + 24) = some (.inl (0, 85, .inl g24)) := (nj 24 (by decide) (by decide)).trans ((Hf _ (by omega) (by omega) (by omega)).trans h24)
      have r26 : h1 (o + 1 + 26) = some (.inl (0, 85, .inl g26)) := (nj 26 (by decide) (by decide)).trans ((Hf _ (by omega) (by omega) (by omega)).trans h26)
      have r28 : h1 (o + 1 + 28) = some (.inl (1, 2100, .inr (.inl gs))) := (nj 28 (by decide) (by decide)).trans ((Hf _ (by omega) (by omega) (by omega)).trans h28)
      have c41b : fs1[41]? = some (.int (nI (420 * d + ((cG (kdN u n) j).2 ++ (gsA 4 (cG (kdN u n) j).1).2).length))) := P.2.2.2.2.2.1
      have P1 := P.row (j := 24) (e := .inl (0, 85, .inl (upd g24 (17 * d + c) (nI (420 * d + ((cG (kdN u n) j).2 ++ (gsA 4 (cG (kdN u n) j).1).2).length))))) (rowS_i (by decide) rfl ⟨_, rfl⟩)
      refine Go.of hX.2 ck_X12_circuit [186] 40 ?_
      refine And.intro (fun _ => ?_) (fun cz => by first | exact absurd cz (by decide) | exact absurd (by decide) cz)
      refine Exists.intro _ (And.intro P.1.1 (Exists.intro _ (And.intro P.2.2.1 ?_)))
      refine And.intro (fun _ => ?_) (fun cz => by first | exact absurd cz (by decide) | exact absurd (by decide) cz)
      refine Exists.intro _ (And.intro P.1.1 (Exists.intro _ (And.intro (P.1.2.2 24 (by decide)) ?_)))
      refine Exists.intro _ (And.intro P.1.1 (Exists.intro _ (And.intro c41b ?_)))
      refine Exists.intro _ (Exists.intro _ (And.intro r24 (And.intro (vp_in_nI hc85 (by decide)) ?_)))
      rw [nI_clamp (show 17 * d + c < 2 ^ 31 by omega)]
      refine go_loc (lv' := [(6, .int (nI a)), (5, .int (nI 0)), (4, .int (nI a)), (3, .int (nI (17 * d + c))), (0, .ref o), (2, .int ow)]) ⟨rfl, rfl, rfl, rfl, rfl, rfl, trivial⟩ ?_
      have T1 : tokM (uph h1 (o + 1 + 24) (.inl (0, 85, .inl (upd g24 (17 * d + c) (nI (420 * d + ((cG (kdN u n) j).2 ++ (gsA 4 (cG (kdN u n) j).1).2).length)))))) o u n m := hT.ag (fun x x1 x2 => (uph_ne (by omega)).trans ((y11 x (by omega) (fun k hk e => by
        have : ∀ k ∈ jsC, 18 ≤ k := by decide
        have := this k hk
        omega)).trans (Hf x (by omega) (by omega) (by omega))))
      refine m_signs hX P1 T1 hu y2 hm (Nat.le_of_lt y1) y4 ((uph_ne (by omega)).trans r28) ((uph_ne (by omega)).trans r26) hd hc85 (fun h2 fs2 gs1 v1 v2 v3 v4 v5 v6 v7 => ?_)
      have f2 : ∀ x, x ≠ o → (∀ k ∈ [24, 26, 28], x ≠ o + 1 + k) → h2 x = h1 x := fun x x1 x2 => (v3 x x1 (x2 28 (by decide)) (x2 26 (by decide))).trans (uph_ne (x2 24 (by decide)))
      have e24 := (v3 (o + 1 + 24) (by omega) (by omega) (by omega)).trans uph_eq
      have f2j : ∀ k, k < 63 → k ≠ 24 → k ≠ 26 → k ≠ 28 → h2 (o + 1 + k) = h1 (o + 1 + k) := fun k hk n1 n2 n3 => f2 _ (by omega) (fun i hi e => by
        have e : k = i := by omega
        subst e
        rcases List.mem_cons.mp hi with z | z
        · exact n1 z
        · rcases List.mem_cons.mp z with z | z
          · exact n2 z
          · exact n3 (List.mem_singleton.mp z))
      have F2 : FRM o d h0 fs0 h2 fs2 := F.up [24, 26, 28] v2 f2 ⟨⟨by decide, by decide, fun _ => rowZ.u r24 e24 (show 17 * d ≤ _ by omega)⟩, ⟨by decide, by decide, fun _ => rowZ.u r26 v7 (show 17 * d ≤ _ by omega)⟩, ⟨by decide, by decide, fun _ => rowZ.l r28 v4 (fun x hx => v5 x (by have hx : x < 420 * d := hx; omega))⟩, True.intro⟩
      refine hP j h2 fs2 gs1 y1 y2 y3 y4 y5 y6 y7 y8 ⟨v1, F2, K0.ag (fun k hk => f2j k (by omega) (by omega) (by omega) (by omega)), ?_, C0.ag (f2j 27 (by decide) (by decide) (by decide) (by decide))⟩ (y10.tr v2) (fun k hk => ?_) ?_ e24 ?_ v7 v4 v5 v6
      · obtain ⟨g, z1, z2⟩ := k31
        exact ⟨g, (f2j 31 (by decide) (by decide) (by decide) (by decide)).trans z1, z2⟩
      · rw [f2j k (by omega) (by omega) (by omega) (by omega), nj k (by omega) (fun z => by
          have : ∀ k ∈ jsC, 18 ≤ k ∧ k ≠ 20 := by decide
          have := this k z
          omega)]
        exact Hf _ (by omega) (by omega) (by omega)
      · rw [f2j 23 (by decide) (by decide) (by decide) (by decide), nj 23 (by decide) (by decide)]
        exact H23
      · rw [f2j 25 (by decide) (by decide) (by decide) (by decide), nj 25 (by decide) (by decide)]
        exact H25
    have loop : ∀ (k t : Nat) (h1 : AH) (fs1 : List Value), 402 ≤ t + k → a ≤ t → t < m → (∀ j, j < t → zok (kdN u n) j) → inC (kdN u n) a t → zS (zz (kdN u n) t) = 10 → MRs (kdN u n) o d h0 fs0 h1 fs1 t (gCn (kdN u n) a) wo wp (cG (kdN u n) t).1 (cG (kdN u n) t).2 → pfF fs fs1 → (∀ x, x ≠ o → (∀ j ∈ jsC, x ≠ o + 1 + j) → h1 x = H x) → Go l G 12 s_X12_circuit 0 0 Post 55 [(5, .int (nI 1)), (4, .int (nI a)), (3, .int (nI (17 * d + c))), (0, .ref o), (2, .int ow)] [] h1 nx 0 0 := by
      intro k
      induction k with
      | zero => intro t h1 fs1 e _ htm; omega
      | succ k ih =>
        intro t h1 fs1 e hat htm hta hin hst S ff fr
        obtain ⟨P, F, K0, ⟨g31b, r31, q31⟩, ⟨g27, r27, q27⟩⟩ := id S
        have T1 : tokM h1 o u n m := hT.ag (fun x x1 x2 => (fr x (by omega) (fun k hk e => by
          have : ∀ k ∈ jsC, 18 ≤ k := by decide
          have := this k hk
          omega)).trans (Hf x (by omega) (by omega) (by omega)))
        have e20 : fs1[20]? = some (.int (nI d)) := (ff 20 (by omega)).trans f20
        obtain ⟨i1, i2, i3, i4⟩ := cG_w hkd hta
        have hzt := zW_all hkd hta
        have hd4 : zD (zz (kdN u n) t) ≤ 4 := hzt.2.1
        obtain ⟨zT1, zI1, zR1, zL1, zV1⟩ := hin.z hkd hta hat (Nat.le_refl t)
        have c12 : fs1[12]? = some (.int (nI (opC (cG (kdN u n) t).1))) := P.2.2.2.2.1
        have c49 : fs1[49]? = some (.int (nI (cG (kdN u n) t).1.length)) := P.2.2.2.2.2.2.2.2.1
        have wl := wN_le (kdN u n) t
        refine Go.of hX.2 ck_X12_circuit [55] 60 ?_
        refine And.intro (fun cz => by first | exact absurd cz (by decide) | exact absurd (by decide) cz) (fun _ => ?_)
        refine Exists.intro _ (And.intro P.1.1 (Exists.intro _ (And.intro P.2.2.1 ?_)))
        refine And.intro (fun cz => by first | exact absurd cz (by decide) | exact absurd (by decide) cz) (fun _ => ?_)
        refine Exists.intro _ (And.intro P.1.1 (Exists.intro 0 (Exists.intro 0 (And.intro (Nat.le_refl _) (And.intro (Nat.le_refl _) (m_is (k := 6) hX P T1 hu htm hm (by decide) ?_))))))
        rw [show decide (mkK (kdN u n ((t, opC (cG (kdN u n) t).1, 420 * d + (cG (kdN u n) t).2.length, 420 * d + gCn (kdN u n) a), (wN (kdN u n) t, (cG (kdN u n) t).1.length, wo, wp)).1.1) = 6) = decide (kdN u n t = 17) from decide_eq_decide.mpr (kk9 hkd t).2.2.2.1]
        by_cases k17 : kdN u n t = 17
        · rw [decide_eq_true k17]
          refine And.intro (fun cz => by first | exact absurd cz (by decide) | exact absurd (by decide) cz) (fun _ => ?_)
          have hb : zB (zS (zz (kdN u n) t)) (zD (zz (kdN u n) t)) (kdN u n t) = some 10 := by rw [hst, k17]; rfl
          have eO : zO (zz (kdN u n) t) (kdN u n t) = decide (4 ≤ zD (zz (kdN u n) t)) := by rw [k17]; rfl
          refine Exists.intro _ (And.intro P.1.1 (Exists.intro _ (And.intro c12 ?_)))
          by_cases c4 : opC (cG (kdN u n) t).1 = 4
          · refine And.intro (fun cz => absurd (show nI (opC (cG (kdN u n) t).1) = 4 from by rw [c4]; rfl) cz) (fun _ => ?_)
            obtain ⟨s1, s2⟩ := stop_2 hkd hZ hta hb (Or.inr (by rw [eO]; exact decide_eq_true (by omega)))
            refine Exists.intro _ (And.intro P.1.1 (Exists.intro 0 (Exists.intro 0 (And.intro (Nat.le_refl _) (And.intro (Nat.le_refl _) (m_fail (f := 2) hX P T1 htm hm (by decide) (fun h2 fs2 z1 z2 z3 => ?_)))))))
            refine Exists.intro _ (And.intro z1.1.1 (Exists.intro _ (And.intro z1.2.2.1 ?_)))
            refine And.intro (fun cz => absurd cz (show ¬ nI 2 ≤ 0 from by decide)) (fun _ => ?_)
            exact hB h2 fs2 (by rw [s2, s1]; exact z1) (F.ob z2 z3)
          · refine And.intro (fun _ => ?_) (fun cz => absurd cz (fun z => c4 ((nI_eq (by omega) (by decide)).mp z)))
            refine Exists.intro _ (And.intro P.1.1 (Exists.intro _ (And.intro P.2.2.1 ?_)))
            refine And.intro (fun _ => ?_) (fun cz => by first | exact absurd cz (by decide) | exact absurd (by decide) cz)
            have P1 := P.o (w2 := opC (cG (kdN u n) t).1 + 1)
            have P2 := P1.row (j := 31) (e := .inl (0, 420, .inl (upd g31b (cG (kdN u n) t).1.length 6))) (rowS_i (by decide) rfl ⟨_, rfl⟩)
            have P3 := P2.g (w2 := (cG (kdN u n) t).1.length + 1)
            refine Exists.intro _ (And.intro P.1.1 (Exists.intro _ (And.intro c12 ?_)))
            refine Exists.intro _ (And.intro P.1.1 (And.intro (by rw [P.1.2.1]; decide) (And.intro rfl (And.intro rfl ?_))))
            rw [show nI (opC (cG (kdN u n) t).1) + 1 = nI (opC (cG (kdN u n) t).1 + 1) from (nI_succ _).symm]
            have c49b : (fs1.set 12 (.int (nI (opC (cG (kdN u n) t).1 + 1))))[49]? = some (.int (nI (cG (kdN u n) t).1.length)) := P1.2.2.2.2.2.2.2.2.1
            refine Exists.intro _ (And.intro P1.1.1 (Exists.intro _ (And.intro (P1.1.2.2 31 (by decide)) ?_)))
            refine Exists.intro _ (And.intro P1.1.1 (Exists.intro _ (And.intro c49b ?_)))
            refine Exists.intro _ (Exists.intro _ (And.intro ((uph_ne (by omega)).trans r31) (And.intro (vp_in_nI (show (cG (kdN u n) t).1.length < 420 by omega) (by decide)) ?_)))
            rw [nI_clamp (show (cG (kdN u n) t).1.length < 2 ^ 31 by omega)]
            refine Exists.intro _ (And.intro P2.1.1 (Exists.intro _ (And.intro c49b ?_)))
            refine Exists.intro _ (And.intro P2.1.1 (And.intro (by rw [P2.1.2.1]; decide) (And.intro rfl (And.intro rfl ?_))))
            rw [show nI (cG (kdN u n) t).1.length + 1 = nI ((cG (kdN u n) t).1.length + 1) from (nI_succ _).symm]
            generalize hh2 : uph (uph (uph h1 o (.inr (12, fs1.set 12 (.int (nI (opC (cG (kdN u n) t).1 + 1)))))) (o + 1 + 31) (.inl (0, 420, .inl (upd g31b (cG (kdN u n) t).1.length 6)))) o (.inr (12, (fs1.set 12 (.int (nI (opC (cG (kdN u n) t).1 + 1)))).set 49 (.int (nI ((cG (kdN u n) t).1.length + 1))))) = H2 at P3
            have H2f : ∀ x, x ≠ o → x ≠ o + 1 + 31 → H2 x = h1 x := fun x x1 x2 => by rw [← hh2, uph_ne x1, uph_ne x2, uph_ne x1]
            have H31 : H2 (o + 1 + 31) = some (.inl (0, 420, .inl (upd g31b (cG (kdN u n) t).1.length 6))) := by rw [← hh2, uph_ne (by omega)]; exact uph_eq
            have T2 : tokM H2 o u n m := T1.ag (fun x x1 x2 => H2f x (by omega) (by omega))
            have ff2 : pfF fs1 ((fs1.set 12 (.int (nI (opC (cG (kdN u n) t).1 + 1)))).set 49 (.int (nI ((cG (kdN u n) t).1.length + 1)))) := ((pfF.rf fs1).st (by omega)).st (by omega)
            have F2 : FRM o d h0 fs0 H2 ((fs1.set 12 (.int (nI (opC (cG (kdN u n) t).1 + 1)))).set 49 (.int (nI ((cG (kdN u n) t).1.length + 1)))) := F.up [31] ff2 (fun x y1 y2 => H2f x y1 (y2 31 (by decide))) ⟨⟨by decide, by decide, fun z => absurd z (by decide)⟩, True.intro⟩
            refine Exists.intro _ (And.intro P3.1.1 (Exists.intro 0 (Exists.intro 0 (And.intro (Nat.le_refl _) (And.intro (Nat.le_refl _) (m_goesOn hX P3 T2 htm hm (fun e h3 fs3 z1 z2 z3 => ?_) (fun e h3 fs3 z1 z2 z3 => ?_)))))))
            · obtain ⟨s1, s2⟩ := stop_2 hkd hZ hta hb (Or.inl (by omega))
              exact go_loc (lv' := [(5, .int (nI true.toNat)), (4, .int (nI a)), (3, .int (nI (17 * d + c))), (0, .ref o), (2, .int ow)]) ⟨rfl, rfl, rfl, rfl, rfl, trivial⟩ (bad h3 fs3 true 2 _ z1 s2.symm (by rw [s1]) (F2.ob z2 z3))
            · obtain ⟨b1, b2, b3, b4⟩ := zok_k hZ hkd hta e hb (by rw [eO]; exact decide_eq_false (by omega))
              have eS : zS (zz (kdN u n) (t + 1)) = 10 := by rw [b4, zA_S]
              have eC := cG_17 (kd := kdN u n) (i := t) (by omega) k17
              have iC : inC (kdN u n) t (t + 1) := fun q h1 h2 => by
                have e : q = t := by omega
                subst e
                exact ⟨by omega, by omega⟩
              have S3 : MRs (kdN u n) o d h0 fs0 h3 fs3 (t + 1) (gCn (kdN u n) a) wo wp (cG (kdN u n) (t + 1)).1 (cG (kdN u n) (t + 1)).2 := by
                have ew : wN (kdN u n) (t + 1) = wN (kdN u n) t := wN_s (by omega)
                have ek : zK (zz (kdN u n) (t + 1)) = zK (zz (kdN u n) t) := by rw [b4]; exact zK_s (by omega)
                refine ⟨?_, F2.ob z2 z3, ((K0.ag (fun j hj => (z3 _ (by omega)).trans (H2f _ (by omega) (by omega))))).stay ek (no_nm hkd b3 ew ek), ⟨_, (z3 _ (by omega)).trans H31, ?_⟩, ?_⟩
                · rw [eC, ew]
                  show PRs h3 o fs3 ((t + 1, 1 + opC (cG (kdN u n) t).1, 420 * d + (cG (kdN u n) t).2.length, 420 * d + gCn (kdN u n) a), (wN (kdN u n) t, (cG (kdN u n) t).1.length + 1, wo, wp))
                  rw [Nat.add_comm 1]
                  exact z1
                · rw [eC]
                  exact rowP_push q31
                · rw [eC]
                  exact ⟨g27, ((z3 _ (by omega)).trans (H2f _ (by omega) (by omega))).trans r27, q27⟩
              exact go_loc (lv' := [(5, .int (nI 1)), (4, .int (nI a)), (3, .int (nI (17 * d + c))), (0, .ref o), (2, .int ow)]) ⟨rfl, rfl, rfl, rfl, rfl, trivial⟩ (ih (t + 1) h3 fs3 (by omega) (by omega) (hE.s htm (by omega) e) b3 (hin.app iC) eS S3 ((ff.tr ff2).tr z2) (fun x x1 x2 => (z3 x x1).trans ((H2f x x1 (x2 31 (by decide))).trans (fr x x1 x2))))
        · rw [decide_eq_false k17]
          refine And.intro (fun _ => ?_) (fun cz => by first | exact absurd cz (by decide) | exact absurd (by decide) cz)
          have hw2 : (zT (zz (kdN u n) t) = 10 ∧ ow = -1) ∨ (zT (zz (kdN u n) t) ≠ 10 ∧ ow = nI (mOw (zz (kdN u n) t)) ∧ mOw (zz (kdN u n) t) < 16) := by
            have em : mOw (zz (kdN u n) t) = mOw (zz (kdN u n) a) := by
              unfold mOw
              rw [zT1, zR1, zL1]
            rw [em, zT1]
            exact how
          refine Exists.intro _ (And.intro P.1.1 (Exists.intro 0 (Exists.intro 0 (And.intro (Nat.le_refl _) (And.intro (Nat.le_refl _) (m_unitZ hX S T1 hu htm hm hE hZ hta hst k17 e20 hd hw2 (fun h2 fs2 z1 z2 z3 z4 => ?_) (fun t2 h2 fs2 v1 v2 v3 v4 v5 v6 v7 v8 => ?_)))))))
          · have fb := z1.2.2.2.2
            have n0 : ¬ nI (zFt (kdN u n) N) = 0 := fun z => by
              have := (nI_eq (a := zFt (kdN u n) N) (b := 0) (by omega) (by omega)).mp z
              omega
            refine Exists.intro _ (And.intro z1.1.1 (Exists.intro _ (And.intro z1.2.2.1 ?_)))
            refine And.intro (fun _ => ?_) (fun cz => absurd cz (n0))
            exact go_loc (lv' := [(5, .int (nI false.toNat)), (4, .int (nI a)), (3, .int (nI (17 * d + c))), (0, .ref o), (2, .int ow)]) ⟨rfl, rfl, rfl, rfl, rfl, trivial⟩ (bad h2 fs2 false _ _ z1 rfl rfl z2)
          · obtain ⟨P2, F2, K2, k31, ⟨g27b, r27b, q27b⟩⟩ := id v6
            have T2 : tokM h2 o u n m := T1.ag (fun x x1 x2 => v8 x (by omega) (fun k hk e => by
              have : ∀ k ∈ jsU, 18 ≤ k := by decide
              have := this k hk
              omega))
            obtain ⟨j1, j2, j3, j4⟩ := cG_w hkd v3
            have G2 := GSt.of v6 r27b
            have tie := gs_tie hkd hZ ((cG (kdN u n) t2).1.length + 1) t2 [] v3 v5 (Nat.lt_succ_self _) (by omega)
            refine Exists.intro _ (And.intro P2.1.1 (Exists.intro _ (And.intro P2.2.2.1 ?_)))
            refine And.intro (fun cz => by first | exact absurd cz (by decide) | exact absurd (by decide) cz) (fun _ => ?_)
            refine Exists.intro _ (And.intro P2.1.1 (Exists.intro 0 (Exists.intro 0 (And.intro (Nat.le_refl _) (And.intro (Nat.le_refl _) (m_goes hX G2 T2 hu v2 hm hE j1 rfl (by omega) (by show 420 * d + (cG (kdN u n) t2).2.length + 0 + _ ≤ 2100; omega) (fun b f t3 x h3 fs3 z1 z2 z3 z4 z5 => ?_) (fun t3 c3 h3 fs3 z1 z2 z3 => ?_) (fun t3 W3 c3 h3 fs3 z1 z2 z3 => ?_)))))))
            · have F3 : FRM o d h0 fs0 h3 fs3 := F2.up [27, 31] z3 (fun x y1 y2 => z4 x y1 (y2 27 (by decide)) (y2 31 (by decide))) ⟨⟨by decide, by decide, fun _ => by
                obtain ⟨gg, e1, e2⟩ := z5
                exact rowZ.i r27b e1 (fun x hx => e2 x (by have hx : x < 420 * d := hx; omega))⟩, ⟨by decide, by decide, fun z => absurd z (by decide)⟩, True.intro⟩
              have eN : N = t3 ∧ zFt (kdN u n) N = f := by
                have z1 : gsP (fun t => mkK (kdN u n t)) ((cG (kdN u n) t2).1.length + 1) t2 (cG (kdN u n) t2).1 [] = ((0, f), t3, x) := z1
                rw [z1] at tie
                rcases tie with ⟨f', t', x', q1, q2, q3⟩ | ⟨t', c', e', q1, _⟩ | ⟨t', W', c', e', q1, _⟩
                · cases q1
                  exact ⟨q2, q3⟩
                · cases q1
                · cases q1
              cases b with
              | true =>
                refine And.intro (fun cz => by first | exact absurd cz (by decide) | exact absurd (by decide) cz) (fun _ => ?_)
                exact go_loc (lv' := [(5, .int (nI true.toNat)), (4, .int (nI a)), (3, .int (nI (17 * d + c))), (0, .ref o), (2, .int ow)]) ⟨rfl, rfl, rfl, rfl, rfl, trivial⟩ (bad h3 fs3 true _ _ z2 eN.2.symm (by rw [eN.1]) F3)
              | false =>
                refine And.intro (fun _ => ?_) (fun cz => by first | exact absurd cz (by decide) | exact absurd (by decide) cz)
                exact go_loc (lv' := [(5, .int (nI false.toNat)), (4, .int (nI a)), (3, .int (nI (17 * d + c))), (0, .ref o), (2, .int ow)]) ⟨rfl, rfl, rfl, rfl, rfl, trivial⟩ (bad h3 fs3 false _ _ z2 eN.2.symm (by rw [eN.1]) F3)
            · have z1 : gsP (fun t => mkK (kdN u n t)) ((cG (kdN u n) t2).1.length + 1) t2 (cG (kdN u n) t2).1 [] = ((1, 0), t3, [], c3) := z1
              rw [z1] at tie
              rcases tie with ⟨f', t', x', q1, _⟩ | ⟨t', c', e', q1, q2, q3, q4, q5, q6, q7, q8, q9, q10, q11, q12, q13, q14, q15⟩ | ⟨t', W', c', e', q1, _⟩
              · cases q1
              · cases q1
                subst q13
                have S3 := MRs.ofG hkd v6 r27b (W' := []) z2 q4 q10 q11 q15
                rw [← q14] at S3
                refine And.intro (fun _ => ?_) (fun cz => by first | exact absurd cz (by decide) | exact absurd (by decide) cz)
                exact go_loc (lv' := [(5, .int (nI 0)), (4, .int (nI a)), (3, .int (nI (17 * d + c))), (0, .ref o), (2, .int ow)]) ⟨rfl, rfl, rfl, rfl, rfl, trivial⟩ (fine t3 h3 fs3 (by omega) z3 q4 ((hin.app v4).app q5) q6 q7 q8 q9 S3 ((ff.tr v7).tr z2.2.2.2.1) (fun x x1 x2 => (z2.2.2.2.2 x x1 (x2 27 (by decide)) (x2 31 (by decide))).trans ((v8 x x1 (fun k hk => x2 k (jsU_C k hk))).trans (fr x x1 x2))))
              · cases q1
            · have z1 : gsP (fun t => mkK (kdN u n t)) ((cG (kdN u n) t2).1.length + 1) t2 (cG (kdN u n) t2).1 [] = ((2, 0), t3, W3, c3) := z1
              rw [z1] at tie
              rcases tie with ⟨f', t', x', q1, _⟩ | ⟨t', c', e', q1, _⟩ | ⟨t', W', c', e', q1, q2, q3, q4, q5, q6, q7, q8, q9, q10, q11, q12⟩
              · cases q1
              · cases q1
              · cases q1
                subst q10
                have S3 := MRs.ofG hkd v6 r27b z2 q4 q7 q8 q12
                rw [← q11, ← q9] at S3
                refine And.intro (fun cz => by first | exact absurd cz (by decide) | exact absurd (by decide) cz) (fun _ => ?_)
                exact go_loc (lv' := [(5, .int (nI 1)), (4, .int (nI a)), (3, .int (nI (17 * d + c))), (0, .ref o), (2, .int ow)]) ⟨rfl, rfl, rfl, rfl, rfl, trivial⟩ (ih t3 h3 fs3 (by omega) (by omega) z3 q4 ((hin.app v4).app q5) q6 S3 ((ff.tr v7).tr z2.2.2.2.1) (fun x x1 x2 => (z2.2.2.2.2 x x1 (x2 27 (by decide)) (x2 31 (by decide))).trans ((v8 x x1 (fun k hk => x2 k (jsU_C k hk))).trans (fr x x1 x2))))
    exact go_loc (lv' := [(5, .int (nI 1)), (4, .int (nI a)), (3, .int (nI (17 * d + c))), (0, .ref o), (2, .int ow)]) ⟨rfl, rfl, rfl, rfl, rfl, trivial⟩ (loop (402 - a) a H _ (by omega) (Nat.le_refl a) ham ha (fun q h1 h2 => by omega) hs S0 F1 (fun _ _ _ => rfl))
  refine en_X12_circuit hX [10] 40 rfl ?_
  refine Exists.intro _ (And.intro P0.1.1 (Exists.intro _ (And.intro f20 ?_)))
  exact go_loc (lv' := [(3, .int (17 * nI d + nI c)), (0, .ref o), (2, .int ow)]) ⟨rfl, rfl, rfl, trivial⟩ (at10 _ ei)
