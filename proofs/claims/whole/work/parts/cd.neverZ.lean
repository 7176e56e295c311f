/-! the model reads: a never is told -/
/-- names told are told once, as far as no fault was found -/
theorem told_unE {kd : Nat → Nat} {vl : Nat → Int64} {t a b : Nat} (h : TXT kd t) (hF : ∀ i, i < t → eXz kd vl i = 0) (ha : a ∈ toL kd t) (hb : b ∈ toL kd t) (e : vl a = vl b) : a = b := by
  have key : ∀ {a b : Nat}, a ∈ toL kd t → b ∈ toL kd t → vl a = vl b → ¬ a < b := fun {a b} ha hb e z => by
    obtain ⟨a1, a2⟩ := List.mem_filter.mp hb
    have hlt := List.mem_range.mp a1
    have a2 : zN (zS (zz kd b)) = true := a2
    obtain ⟨q, h1, h2, _⟩ := h.st hlt
    have k2 := zN_2 a2 ⟨q, h1⟩
    have hf := hF b hlt
    rw [eX_n a2 k2] at hf
    have hany : (toL kd b).any (fun x => decide (vl x = vl b)) = true := by
      rw [List.any_eq_true]
      exact ⟨a, List.mem_filter.mpr ⟨List.mem_range.mpr z, (List.mem_filter.mp ha).2⟩, decide_eq_true e⟩
    rw [if_pos hany] at hf
    cases hf
  rcases Nat.lt_trichotomy a b with z | z | z
  · exact absurd z (key ha hb e)
  · exact z
  · exact absurd z (key hb ha e.symm)
/-- the lamp that a never names: the model's way and x's -/
theorem never_l {kd : Nat → Nat} {vl : Nat → Int64} {t d : Nat} {nmL : Nat → Int64} {g14 : Nat → Int32} {x : Int64} (h : TXT kd t) (hF : ∀ i, i < t → eXz kd vl i = 0) (n3 : ∀ i, i < t → zS (zz kd i) = 7 → nmL (zL (zz kd i)) = vl i) (g3 : ∀ i, i < t → zS (zz kd i) = 7 → g14 (5 * d + zL (zz kd i)) = nI (decide (zT (zz kd i) = 9)).toNat) : (∃ g, zG kd vl (toL kd t) x = some g ∧ g < zL (zz kd t) ∧ fdN nmL x (zL (zz kd t)) = nI g ∧ g14 (5 * d + g) = 1) ∨ (zG kd vl (toL kd t) x = none ∧ (fdN nmL x (zL (zz kd t)) = -1 ∨ ∃ k, k < zL (zz kd t) ∧ fdN nmL x (zL (zz kd t)) = nI k ∧ g14 (5 * d + k) = 0)) := by
  have w6 := (h.w (Nat.le_refl t)).2.2.2.2.2.1
  cases hz : zG kd vl (toL kd t) x with
  | some g =>
    obtain ⟨t0, b1, b2, b3, b4, b5, b6⟩ := zG_c h (Nat.le_refl t) hz
    refine Or.inl ⟨g, rfl, b6, ?_, ?_⟩
    · rcases fdN_c (nm := nmL) (x := x) (zL (zz kd t)) (by omega) with ⟨_, q⟩ | ⟨k, k1, k2, k3, _⟩
      · exact absurd ((n3 t0 b1 b2).trans b4) (q _ (by omega))
      · obtain ⟨i, i1, i2, i3, i4, _⟩ := exL h k1
        have e : i = t0 := told_unE h hF (told_m i1 (Or.inr (Or.inr i2))) (told_m b1 (Or.inr (Or.inr b2))) (by rw [← n3 i i1 i2, i4, k2, b4])
        rw [k3, ← i4, e, b5]
    · rw [b5, g3 t0 b1 b2, decide_eq_true b3]
      rfl
  | none =>
    refine Or.inr ⟨rfl, ?_⟩
    rcases fdN_c (nm := nmL) (x := x) (zL (zz kd t)) (by omega) with ⟨q, _⟩ | ⟨k, k1, k2, k3, _⟩
    · exact Or.inl q
    · obtain ⟨i, i1, i2, i3, i4, _⟩ := exL h k1
      refine Or.inr ⟨k, k1, k3, ?_⟩
      have n9 : zT (zz kd i) ≠ 9 := fun e9 => by
        unfold zG at hz
        have hf : (toL kd t).find? (zGp kd vl x) = none := by
          cases hf : (toL kd t).find? (zGp kd vl x) with
          | none => rfl
          | some y => rw [hf] at hz; cases hz
        have := List.find?_eq_none.mp hf i (told_m i1 (Or.inr (Or.inr i2)))
        refine this ?_
        unfold zGp
        rw [decide_eq_true (show vl i = x by rw [← n3 i i1 i2, i4, k2]), decide_eq_true e9]
        rfl
      rw [← i4, g3 i i1 i2, decide_eq_false n9]
      rfl
theorem eX_8 {kd : Nat → Nat} {vl : Nat → Int64} {i : Nat} (h : zS (zz kd i) = 8) (hk : kd i = 2) : eXz kd vl i = if (zG kd vl (toL kd i) (vl i)).isNone = true then 4 else 0 := by
  unfold eXz
  rw [if_neg (by omega), if_neg (fun z => z hk), if_neg (by rw [h]; decide), if_pos h]
/-- a fault found already stays the worst -/
theorem WRs.far {kd pl : Nat → Nat} {vl : Nat → Int64} {t t2 wo : Nat} {wp : Int32} (W : WRs kd vl pl t wo wp) (h : wo ≠ 0) (htt : t ≤ t2) : WRs kd vl pl t2 wo wp := by
  rcases W with ⟨a, _⟩ | ⟨i, a, b, c, e, f⟩
  · exact absurd a h
  · exact Or.inr ⟨i, by omega, b, c, e, f⟩
set_option maxHeartbeats 16000000 in
set_option maxHeartbeats 8000000 in
theorem m_tellNeverZ {l : Launch} {G : GG} {h : AH} {nx : Nat} {Post : Option Value → AH → Nat → Prop} {o d n m N t : Nat} {u : Nat → Nat} {h0 : AH} {fs fs0 : List Value} (hX : XC G ∧ TX l G) (hS : BSt u n o d N h0 fs0 h fs t) (hT : tokM h o u n m) (hu : ∀ i, u i < 256) (ht : t < m) (hm : m ≤ 401) (hn : n ≤ 2000) (hE : tkEnd u n m) (hZ : zEnd (kdN u n) N) (hX0 : TXT (kdN u n) t) (hk : kdN u n t = 10) (h5 : zV (zz (kdN u n) t) < 6) (f20 : fs0[20]? = some (.int (nI d))) (hd : d < 4) (hB : ∀ (h1 : AH) (fs1 : List Value), PFl h1 o fs1 (zFt (kdN u n) N) (plN u n N) → FRM o d h0 fs0 h1 fs1 → Post none h1 nx) (hP : ∀ (t2 : Nat) (h1 : AH) (fs1 : List Value), t < t2 → t2 < m → TXT (kdN u n) t2 → BSt u n o d N h0 fs0 h1 fs1 t2 → tokM h1 o u n m → Post none h1 nx) : Runs l G i_X12_tellNever 0 0 [.ref o] h nx Post := by
  have hkd := kdN_lt hu n
  obtain ⟨⟨wo, wp, M, W⟩, s1, s2, s3, s4, s5⟩ := hS
  obtain ⟨⟨wg, P⟩, F, K0, C0⟩ := id M
  have f20b : ∀ {h1 : AH} {fs1 : List Value}, FRM o d h0 fs0 h1 fs1 → fs1[20]? = some (.int (nI d)) := fun hF => (hF.1 20 (by omega)).trans f20
  have e20 : fs[20]? = some (.int (nI d)) := f20b F
  have T0 : tokM h0 o u n m := hT.ag (fun x x1 x2 => (F.2.1 x (by omega) (Or.inl (by omega))).symm)
  obtain ⟨nmI, nmR, nmL, NM, n1, n2, n3⟩ := names_of hX0 e20 (by omega) s1 s2 s3
  obtain ⟨g16, g17, a1, a2, a5, _⟩ := id s4
  obtain ⟨g13, g14, g15, y13, y14, y15, _, y5⟩ := id s3
  have z0 : zS (zz (kdN u n) t) = 0 := hX0.2.2
  have ha := hX0.2.1
  have w0 := zW_all hkd ha
  have w6 := w0.2.2.2.2.2.1
  have ei : (6 : Int32) * nI d + nI (zV (zz (kdN u n) t)) = nI (6 * d + zV (zz (kdN u n) t)) := by rw [show (6 : Int32) = nI 6 from rfl, nI_mul, nI_add]
  have e11 : (11 : Int32) + nI (zV (zz (kdN u n) t)) = nI (11 + zV (zz (kdN u n) t)) := by rw [show (11 : Int32) = nI 11 from rfl, nI_add]
  have b0 : zB (zS (zz (kdN u n) t)) (zD (zz (kdN u n) t)) (kdN u n t) = some 8 := by rw [z0, hk]; rfl
  have O0 : zO (zz (kdN u n) t) (kdN u n t) = false := by
    rw [hk]
    exact decide_eq_false (p := 6 ≤ zV (zz (kdN u n) t)) (by omega)
  have k0 : kdN u n t ≠ 0 := by omega
  have hd5 : d < 5 := by omega
  have hk30 : 6 * d + zV (zz (kdN u n) t) < 30 := by omega
  have k27 : ∀ j, mkK (kdN u n j) = 27 ↔ kdN u n j = 11 := fun j => ⟨fun z => mkK_inj _ (hkd j) 11 (by decide) z, fun z => by rw [z]; rfl⟩
  have k4 : ∀ j, mkK (kdN u n j) = 4 ↔ kdN u n j = 12 := fun j => (kk9 hkd j).2.2.2.2.1
  have k1 : ∀ j, mkK (kdN u n j) = 1 ↔ kdN u n j = 2 := fun j => (kk9 hkd j).2.2.2.2.2
  have nm1 : ∀ k, k < 100 → ¬ nI k = -1 := by decide
  -- the head's tokens
  have st1 : t < 400 → (∀ i, i < t + 1 → zok (kdN u n) i) ∧ zz (kdN u n) (t + 1) = zA (zz (kdN u n) t) (kdN u n t) 8 := fun h4 => by
    obtain ⟨_, _, x, y⟩ := zok_k hZ hkd ha h4 b0 O0
    exact ⟨x, y⟩
  have z1 : t < 400 → zS (zz (kdN u n) (t + 1)) = 8 ∧ zT (zz (kdN u n) (t + 1)) = 10 ∧ zV (zz (kdN u n) (t + 1)) = zV (zz (kdN u n) t) + 1 ∧ zI (zz (kdN u n) (t + 1)) = zI (zz (kdN u n) t) ∧ zR (zz (kdN u n) (t + 1)) = zR (zz (kdN u n) t) ∧ zL (zz (kdN u n) (t + 1)) = zL (zz (kdN u n) t) := fun h4 => by
    rw [(st1 h4).2]
    exact ⟨zA_S _ _ _, by rw [zA_T, if_pos z0, hk], by rw [zA_V, if_pos ⟨z0, hk⟩], by rw [zA_I, if_neg (by omega)], by rw [zA_R, if_neg (by omega)], by rw [zA_L, if_neg (by omega)]⟩
  have st2 : t + 1 < 400 → kdN u n (t + 1) = 2 → (∀ i, i < t + 2 → zok (kdN u n) i) ∧ zz (kdN u n) (t + 2) = zA (zz (kdN u n) (t + 1)) (kdN u n (t + 1)) 9 := fun h4 h2 => by
    obtain ⟨_, _, x, y⟩ := zok_k (s := 9) hZ hkd (st1 (by omega)).1 h4 (by rw [(z1 (by omega)).1, h2]; rfl) (zC_h (by rw [(z1 (by omega)).1]; decide) h2)
    exact ⟨x, y⟩
  have z2 : t + 1 < 400 → kdN u n (t + 1) = 2 → zS (zz (kdN u n) (t + 2)) = 9 ∧ zT (zz (kdN u n) (t + 2)) = 10 ∧ zV (zz (kdN u n) (t + 2)) = zV (zz (kdN u n) t) + 1 ∧ zI (zz (kdN u n) (t + 2)) = zI (zz (kdN u n) t) ∧ zR (zz (kdN u n) (t + 2)) = zR (zz (kdN u n) t) ∧ zL (zz (kdN u n) (t + 2)) = zL (zz (kdN u n) t) := fun h4 h2 => by
    obtain ⟨y1, y2, y3, y4, y5, y6⟩ := z1 (by omega)
    rw [(st2 h4 h2).2]
    exact ⟨zA_S _ _ _, by rw [zA_T, if_neg (by omega)]; exact y2, by rw [zA_V, if_neg (by omega)]; exact y3, by rw [zA_I, if_neg (by omega)]; exact y4, by rw [zA_R, if_neg (by omega)]; exact y5, by rw [zA_L, if_neg (by omega)]; exact y6⟩
  have at17 : ∀ v, v = nI (6 * d + zV (zz (kdN u n) t)) → Go l G 12 s_X12_tellNever 0 0 Post 18 [(1, .int v), (0, .ref o)] [] h nx 0 0 := by
    intro v hv
    subst hv
    -- behind the lamp's name
    have at78 : ∀ (h1 : AH) (fs1 : List Value) (wo' : Nat) (wp' lm w2 : Int32), kdN u n (t + 1) = 2 → t + 1 < 400 → WRs (kdN u n) (vaN u n) (plN u n) (t + 2) wo' wp' → ((∀ j, j ≤ t + 1 → eXz (kdN u n) (vaN u n) j = 0) → lm = nI ((zG (kdN u n) (vaN u n) (toL (kdN u n) (t + 1)) (vaN u n (t + 1))).getD 0)) → PRs h1 o fs1 ((t + 2, 0, 420 * d + (cG (kdN u n) t).2.length, 420 * d + gCn (kdN u n) t), (wN (kdN u n) t, wg, wo', wp')) → pfF fs fs1 → (∀ x, x ≠ o → h1 x = h x) → Go l G 12 s_X12_tellNever 0 0 Post 78 [(3, .int lm), (2, .int w2), (1, .int (nI (6 * d + zV (zz (kdN u n) t)))), (0, .ref o)] [] h1 nx 0 0 := by
      intro h1 fs1 wo' wp' lm w2 k2 h4 W1 hlm P1 pf1 fr1
      obtain ⟨y1, y2, y3, y4, y5, y6⟩ := z2 h4 k2
      obtain ⟨v1, v2, v3, _⟩ := z1 (by omega)
      have hta := (st2 h4 k2).1
      have htm : t + 2 < m := hE.s (hE.s ht k0 (by omega)) (by omega) h4
      have hdt : zD (zz (kdN u n) (t + 2)) = 0 := (zW_all hkd hta).2.2.2.2.2.2.2.2.1 (by omega)
      have F1 : FRM o d h0 fs0 h1 fs1 := F.ob pf1 fr1
      have T1b : tokM h1 o u n m := hT.ag (fun x x1 x2 => fr1 x (by omega))
      have seg : ∀ i, t ≤ i → i < t + 2 → zS (zz (kdN u n) i) < 10 ∧ kdN u n i ≠ 13 ∧ kdN u n i ≠ 11 := fun i i1 i2 => by
        have : i = t ∨ i = t + 1 := by omega
        rcases this with e | e <;> rw [e] <;> omega
      have r16a := (fr1 (o + 1 + 16) (by omega)).trans a1
      have q20a := f20b F1
      refine Go.of hX.2 ck_X12_tellNever [] 90 ?_
      refine Exists.intro _ (And.intro P1.1.1 (Exists.intro 0 (Exists.intro 0 (And.intro (Nat.le_refl _) (And.intro (Nat.le_refl _) (m_must (k := 27) hX P1 T1b hu htm hm (by decide) (fun f h2 fs2 v0 x1 x2 x3 => ?_) (fun v0 v4 h2 fs2 x1 x2 x3 => ?_)))))))
      · have tie : N = t + 2 ∧ zFt (kdN u n) N = f := mst_tie hkd hZ hta (K := 11) (s2 := 10) (fun k hk => by rw [y1]; exact if_neg hk) (by rw [y1]; rfl) (by omega) (v0.imp (fun z => ⟨fun w => z.1 ((k27 _).mpr w), z.2⟩) (fun z => ⟨(k27 _).mp z.1, z.2⟩))
        have x1b : PFl h2 o fs2 (zFt (kdN u n) N) (plN u n N) := by rw [tie.2, tie.1]; exact x1
        have F2 := F1.ob x2 x3
        refine Exists.intro _ (And.intro x1b.1.1 (Exists.intro _ (And.intro (x1b.1.2.2 16 (by decide)) ?_)))
        refine Exists.intro _ (And.intro x1b.1.1 (Exists.intro _ (And.intro (f20b F2) ?_)))
        refine Exists.intro _ (Exists.intro _ (And.intro ((x3 _ (by omega)).trans r16a) (And.intro (vp_in_nI hd5 (by decide)) ?_)))
        rw [nI_clamp (show d < 2 ^ 31 by omega), a5]
        refine Exists.intro _ (And.intro x1b.1.1 (Exists.intro 0 (Exists.intro 0 (And.intro (Nat.le_refl _) (And.intro (Nat.le_refl _) (m_circuitF hX x1b F2 e11 (f20b F2) hd (by omega) (fun h3 fs3 y1 y2 y3 y4 => ?_)))))))
        refine Exists.intro _ (And.intro y1.1.1 (Exists.intro 0 (Exists.intro 0 (And.intro (Nat.le_refl _) (And.intro (Nat.le_refl _) (m_mustF hX y1 ?_))))))
        refine Exists.intro _ (And.intro y1.1.1 (Exists.intro _ (And.intro y1.2.2.1 ?_)))
        have fb := y1.2.2.2.2
        refine And.intro (fun cz => absurd cz (show ¬ nI (zFt (kdN u n) N) ≤ 0 from nI_ge (a := 0) fb.1 (by omega))) (fun _ => ?_)
        exact hB h3 fs3 y1 y2
      · have k11 := (k27 _).mp v0
        obtain ⟨_, _, c3, c4⟩ := zok_k (s := 10) hZ hkd hta v4 (by rw [y1, k11]; rfl) (by rw [k11]; rfl)
        have c3 : ∀ i, i < t + 3 → zok (kdN u n) i := c3
        have c4 : zz (kdN u n) (t + 3) = zA (zz (kdN u n) (t + 2)) (kdN u n (t + 2)) 10 := c4
        have cS : zS (zz (kdN u n) (t + 3)) = 10 := by rw [c4, zA_S]
        have cT : zT (zz (kdN u n) (t + 3)) = 10 := by rw [c4, zA_T, if_neg (by omega)]; exact y2
        have cV : zV (zz (kdN u n) (t + 3)) = zV (zz (kdN u n) t) + 1 := by rw [c4, zA_V, if_neg (by omega)]; exact y3
        have cI : zI (zz (kdN u n) (t + 3)) = zI (zz (kdN u n) t) := by rw [c4, zA_I, if_neg (by omega)]; exact y4
        have cR : zR (zz (kdN u n) (t + 3)) = zR (zz (kdN u n) t) := by rw [c4, zA_R, if_neg (by omega)]; exact y5
        have cL : zL (zz (kdN u n) (t + 3)) = zL (zz (kdN u n) t) := by rw [c4, zA_L, if_neg (by omega)]; exact y6
        have cD : zD (zz (kdN u n) (t + 3)) = 0 := by rw [c4, zA_D (by omega), if_neg (by omega), if_neg (by omega)]; exact hdt
        have seg2 : ∀ i, t ≤ i → i < t + 3 → zS (zz (kdN u n) i) < 10 := fun i i1 i2 => by
          by_cases e : i = t + 2
          · rw [e]; omega
          · exact (seg i i1 (by omega)).1
        have F2 := F1.ob x2 x3
        have rs2 : ∀ j, j < 63 → h2 (o + 1 + j) = h (o + 1 + j) := fun j w1 => (x3 _ (by omega)).trans (fr1 _ (by omega))
        have T2 : tokM h2 o u n m := T1b.ag (fun x x1 x2 => x3 x (by omega))
        have M2 : MRt (kdN u n) o d h0 fs0 h2 fs2 (t + 3) wo' wp' := M.jump hkd c3 (by omega) seg2 x1 F2 (fun j hj => rs2 j (by have := jump_k j hj; omega))
        have hc0 : (cG (kdN u n) (t + 3)).1 = [] := by
          rw [(hd_seg hkd c3 (show t ≤ t + 3 by omega) seg2).1]
          exact (cG_w hkd ha).2.2.1 (by omega)
        obtain ⟨g23, g24, g25, g26, g28, y23, y24, y25, y26, y28, _⟩ := id s5
        have q20 := f20b F2
        have r16 := (rs2 16 (by decide)).trans a1
        have ecN : cN (zz (kdN u n) (t + 3)) = 11 + zV (zz (kdN u n) t) := by
          unfold cN
          rw [cT, if_neg (by decide), if_pos rfl, cV, Nat.add_sub_cancel]
        have t1m : t + 3 < m := hE.s htm (by omega) v4
        refine Exists.intro _ (And.intro x1.1.1 (Exists.intro _ (And.intro (x1.1.2.2 16 (by decide)) ?_)))
        refine Exists.intro _ (And.intro x1.1.1 (Exists.intro _ (And.intro q20 ?_)))
        refine Exists.intro _ (Exists.intro _ (And.intro r16 (And.intro (vp_in_nI hd5 (by decide)) ?_)))
        rw [nI_clamp (show d < 2 ^ 31 by omega), a5]
        refine Exists.intro _ (And.intro x1.1.1 (Exists.intro 0 (Exists.intro 0 (And.intro (Nat.le_refl _) (And.intro (Nat.le_refl _) (m_circuit hX M2 e11 T2 hu hn t1m hm hE hZ c3 cS cD hc0 q20 hd (by omega) (Or.inl ⟨cT, rfl⟩) ((rs2 23 (by decide)).trans y23) ((rs2 24 (by decide)).trans y24) ((rs2 25 (by decide)).trans y25) ((rs2 26 (by decide)).trans y26) ((rs2 28 (by decide)).trans y28) (fun h3 fs3 z1 z2 => ?_) (fun j h3 fs3 gs1 j1 j2 j3 j4 j5 j6 j7 j8 j9 j10 j11 j12 j13 j14 j15 j16 j17 j18 => ?_)))))))
        · refine Exists.intro _ (And.intro z1.1.1 (Exists.intro 0 (Exists.intro 0 (And.intro (Nat.le_refl _) (And.intro (Nat.le_refl _) (m_mustF hX z1 ?_))))))
          refine Exists.intro _ (And.intro z1.1.1 (Exists.intro _ (And.intro z1.2.2.1 ?_)))
          have fb := z1.2.2.2.2
          refine And.intro (fun cz => absurd cz (show ¬ nI (zFt (kdN u n) N) ≤ 0 from nI_ge (a := 0) fb.1 (by omega))) (fun _ => ?_)
          exact hB h3 fs3 z1 z2
        · have P3 : PRs h3 o fs3 ((j, 0, 420 * d + ((cG (kdN u n) j).2 ++ (gsA 4 (cG (kdN u n) j).1).2).length, 420 * d + gCn (kdN u n) j), (wN (kdN u n) j, 0, wo', wp')) := j9.1
          have F3 : FRM o d h0 fs0 h3 fs3 := j9.2.1
          have T3 : tokM h3 o u n m := T0.ag (fun x x1 x2 => F3.2.1 x (by omega) (Or.inl (by omega)))
          refine Exists.intro _ (And.intro P3.1.1 (Exists.intro 0 (Exists.intro 0 (And.intro (Nat.le_refl _) (And.intro (Nat.le_refl _) (m_must (k := 4) hX P3 T3 hu j2 hm (by decide) (fun f h4 fs4 z0 z1 z2 z3 => ?_) (fun z0 z4 h4 fs4 z1 z2 z3 => ?_)))))))
          · have tie := semi_tie (f := f) hkd hZ j3 j5 j6 j7 j8 (z0.imp (fun z => ⟨fun w => z.1 ((k4 j).mpr w), z.2⟩) (fun z => ⟨(k4 j).mp z.1, z.2⟩))
            refine Exists.intro _ (And.intro z1.1.1 (Exists.intro _ (And.intro z1.2.2.1 ?_)))
            have fb := z1.2.2.2.2
            refine And.intro (fun cz => absurd cz (show ¬ nI f ≤ 0 from nI_ge (a := 0) fb.1 (by omega))) (fun _ => ?_)
            exact hB h4 fs4 (by rw [tie.2, tie.1]; exact z1) (F3.ob z2 z3)
          · have k12 := (k4 j).mp z0
            have P4 : PRs h4 o fs4 ((j + 1, 0, 420 * d + ((cG (kdN u n) j).2 ++ (gsA 4 (cG (kdN u n) j).1).2).length, 420 * d + gCn (kdN u n) j), (wN (kdN u n) j, 0, wo', wp')) := z1
            obtain ⟨e1, e2, e3, e4, e5, e6, e7⟩ := circ_end hkd hZ j3 (Nat.le_of_lt j1) j4 j5 j6 k12 z4 j9 P4 z2 z3
            have F4 := F3.ob z2 z3
            have q20b := f20b F4
            have rs4 : ∀ k, 7 ≤ k → k < 18 → h4 (o + 1 + k) = h (o + 1 + k) := fun k w1 w2 => (z3 _ (by omega)).trans ((j11 k (Or.inl ⟨w1, w2⟩)).trans (rs2 k (by omega)))
            have r17 := (rs4 17 (by decide) (by decide)).trans a2
            have r16b := (rs4 16 (by decide) (by decide)).trans a1
            refine Exists.intro _ (And.intro z1.1.1 (Exists.intro _ (And.intro z1.2.2.1 ?_)))
            refine And.intro (fun _ => ?_) (fun cz => by first | exact absurd cz (by decide) | exact absurd (by decide) cz)
            refine Exists.intro _ (And.intro z1.1.1 (Exists.intro _ (And.intro (z1.1.2.2 17 (by decide)) ?_)))
            refine Exists.intro _ (Exists.intro _ (And.intro r17 (And.intro (vp_in_nI hk30 (by decide)) ?_)))
            rw [nI_clamp (show 6 * d + zV (zz (kdN u n) t) < 2 ^ 31 by omega)]
            have Q1 := z1.row (j := 17) (e := .inl (0, 30, .inl (upd g17 (6 * d + zV (zz (kdN u n) t)) lm))) (rowS_i (by decide) rfl ⟨_, rfl⟩)
            refine Exists.intro _ (And.intro Q1.1.1 (Exists.intro _ (And.intro (z1.1.2.2 16 (by decide)) ?_)))
            refine Exists.intro _ (And.intro Q1.1.1 (Exists.intro _ (And.intro q20b ?_)))
            refine Exists.intro _ (Exists.intro _ (And.intro ((uph_ne (by omega)).trans r16b) (And.intro (vp_in_nI hd5 (by decide)) ?_)))
            rw [nI_clamp (show d < 2 ^ 31 by omega), a5]
            refine Exists.intro _ (Exists.intro _ (And.intro ((uph_ne (by omega)).trans r16b) (And.intro (vp_in_nI hd5 (by decide)) ?_)))
            rw [nI_clamp (show d < 2 ^ 31 by omega), show nI (zV (zz (kdN u n) t)) + 1 = nI (zV (zz (kdN u n) t) + 1) from (nI_succ _).symm]
            have e3b := e3
            obtain ⟨⟨wg4, P5⟩, _⟩ := e3b
            have Q5 := (P5.row (j := 17) (e := .inl (0, 30, .inl (upd g17 (6 * d + zV (zz (kdN u n) t)) lm))) (rowS_i (by decide) rfl ⟨_, rfl⟩)).row (j := 16) (e := .inl (0, 5, .inl (upd g16 d (nI (zV (zz (kdN u n) t) + 1))))) (rowS_i (by decide) rfl ⟨_, rfl⟩)
            generalize hh : uph (uph h4 (o + 1 + 17) (.inl (0, 30, .inl (upd g17 (6 * d + zV (zz (kdN u n) t)) lm)))) (o + 1 + 16) (.inl (0, 5, .inl (upd g16 d (nI (zV (zz (kdN u n) t) + 1))))) = h5' at Q5
            have H16 : h5' (o + 1 + 16) = some (.inl (0, 5, .inl (upd g16 d (nI (zV (zz (kdN u n) t) + 1))))) := by rw [← hh]; exact uph_eq
            have H17 : h5' (o + 1 + 17) = some (.inl (0, 30, .inl (upd g17 (6 * d + zV (zz (kdN u n) t)) lm))) := by rw [← hh, uph_ne (by omega)]; exact uph_eq
            have H5f : ∀ x, x ≠ o + 1 + 16 → x ≠ o + 1 + 17 → h5' x = h4 x := fun x x1 x2 => by rw [← hh, uph_ne x1, uph_ne x2]
            have F5 : FRM o d h0 fs0 h5' fs4 := F4.up [16, 17] (pfF.rf fs4) (fun x y1 y2 => H5f x (y2 16 (by decide)) (y2 17 (by decide))) ⟨⟨by decide, by decide, fun _ => rowZ.u r16b H16 (show 1 * d ≤ d by omega)⟩, ⟨by decide, by decide, fun _ => rowZ.u r17 H17 (show 6 * d ≤ _ by omega)⟩, True.intro⟩
            have M5 : MRt (kdN u n) o d h0 fs0 h5' fs4 (j + 1) wo' wp' := e3.jump hkd e2.2.1 (Nat.le_refl _) (fun i i1 i2 => by omega) Q5 F5 (fun k hk => H5f _ (by have := jump_k k hk; omega) (by have := jump_k k hk; omega))
            have rs5 : ∀ k, 7 ≤ k → k < 18 → k ≠ 16 → k ≠ 17 → h5' (o + 1 + k) = h (o + 1 + k) := fun k w1 w2 w4 w5 => (H5f _ (by omega) (by omega)).trans (rs4 k w1 w2)
            have eXt : eXz (kdN u n) (vaN u n) (t + 2) = 0 := eX_0 (by omega) (Or.inl (by omega))
            have W5 : WRs (kdN u n) (vaN u n) (plN u n) (j + 1) wo' wp' := (W1.s0 eXt).seg (by omega) (eX_c j4 (by omega))
            have hCT : CTb h5' o d (kdN u n) (vaN u n) N (j + 1) := by
              refine s5.circ e2 e1 (a1 := t + 2) (by omega) (Or.inr k11) (fun i i1 i2 => ⟨(seg i i1 i2).2.1, (seg i i1 i2).2.2, (seg i i1 i2).1⟩) (by omega) (by omega) j4 k12 (by omega) y23 y24 y25 y26 y28 ?_ ?_ ?_ ?_ ((H5f _ (by omega) (by omega)).trans ((z3 _ (by omega)).trans j16)) j17 j18
              · rw [ecN]; exact (H5f _ (by omega) (by omega)).trans ((z3 _ (by omega)).trans j12)
              · rw [ecN]; exact (H5f _ (by omega) (by omega)).trans ((z3 _ (by omega)).trans j13)
              · rw [ecN]; exact (H5f _ (by omega) (by omega)).trans ((z3 _ (by omega)).trans j14)
              · rw [ecN]; exact (H5f _ (by omega) (by omega)).trans ((z3 _ (by omega)).trans j15)
            refine hP (j + 1) h5' fs4 (by omega) (hE.s j2 (by omega) z4) e2 ⟨⟨wo', wp', M5, W5⟩, ?_, ?_, ?_, ?_, hCT⟩ (T0.ag (fun x x1 x2 => F5.2.1 x (by omega) (Or.inl (by omega))))
            · exact s1.stay e2 (by omega) (fun k w1 w2 => rs5 k (by omega) (by omega) (by omega) (by omega))
            · exact s2.stay e2 hX0.2.2 (by omega) (by omega) (fun k w1 w2 => rs5 k (by omega) (by omega) (by omega) (by omega))
            · exact s3.stay e2 (by omega) (fun k w1 w2 => rs5 k (by omega) (by omega) (by omega) (by omega))
            · exact s4.more (i0 := t + 1) e2 hX0.2.2 (by omega) (by omega) (by omega) v1 v3 a1 a2 H16 H17 hlm
    have c11 : fs[11]? = some (.int (nI t)) := P.2.2.2.1
    refine Go.of hX.2 ck_X12_tellNever [72, 78] 60 ?_
    refine Exists.intro _ (And.intro P.1.1 (Exists.intro 0 (Exists.intro 0 (And.intro (Nat.le_refl _) (And.intro (Nat.le_refl _) (m_goesOn hX P hT ht hm (fun e h1 fs1 x1 x2 x3 => ?_) (fun e h1 fs1 x1 x2 x3 => ?_)))))))
    · obtain ⟨y1, y2⟩ := stop_2 hkd hZ ha b0 (Or.inl (by omega))
      obtain ⟨_, _, _, _, _, _, tq, _, c11q, _⟩ := id x1
      refine Exists.intro _ (And.intro x1.1.1 (Exists.intro _ (And.intro c11q ?_)))
      refine Exists.intro _ (And.intro x1.1.1 (Exists.intro 0 (Exists.intro 0 (And.intro (Nat.le_refl _) (And.intro (Nat.le_refl _) (m_mustF hX x1 ?_))))))
      refine Exists.intro _ (And.intro x1.1.1 (Exists.intro _ (And.intro x1.2.2.1 ?_)))
      refine And.intro (fun cz => absurd cz (show ¬ nI 2 ≤ 0 from by decide)) (fun _ => ?_)
      exact hB h1 fs1 (by rw [y2, y1]; exact x1) (F.ob x2 x3)
    · have T2 : tokM h1 o u n m := hT.ag (fun x w1 w2 => x3 x (by omega))
      have t1m : t + 1 < m := hE.s ht k0 e
      have c11q : fs1[11]? = some (.int (nI (t + 1))) := x1.2.2.2.1
      refine Exists.intro _ (And.intro x1.1.1 (Exists.intro _ (And.intro c11q ?_)))
      refine Exists.intro _ (And.intro x1.1.1 (Exists.intro 0 (Exists.intro 0 (And.intro (Nat.le_refl _) (And.intro (Nat.le_refl _) (m_must (k := 1) hX x1 T2 hu t1m hm (by decide) (fun f h2 fs2 v0 y1 y2 y3 => ?_) (fun v0 v4 h2 fs2 y1 y2 y3 => ?_)))))))
      · have tie : N = t + 1 ∧ zFt (kdN u n) N = f := mst_tie hkd hZ (st1 e).1 (K := 2) (s2 := 9) (fun k hk => by rw [(z1 e).1]; exact if_neg hk) (by rw [(z1 e).1]; rfl) (by rw [(z1 e).1]; decide) (v0.imp (fun z => ⟨fun w => z.1 ((k1 _).mpr w), z.2⟩) (fun z => ⟨(k1 _).mp z.1, z.2⟩))
        refine Exists.intro _ (And.intro y1.1.1 (Exists.intro _ (And.intro y1.2.2.1 ?_)))
        have fb := y1.2.2.2.2
        refine And.intro (fun cz => absurd cz (show ¬ nI f ≤ 0 from nI_ge (a := 0) fb.1 (by omega))) (fun _ => ?_)
        exact hB h2 fs2 (by rw [tie.2, tie.1]; exact y1) ((F.ob x2 x3).ob y2 y3)
      · have k2 := (k1 _).mp v0
        have fr2 : ∀ x, x ≠ o → h2 x = h x := fun x hx => (y3 x hx).trans (x3 x hx)
        have T3 : tokM h2 o u n m := T2.ag (fun x w1 w2 => y3 x (by omega))
        obtain ⟨q2, q3, q4, q5, b2, b3, b4, b5, p⟩ := id T3
        have N2 : NMp h2 o fs2 d (zI (zz (kdN u n) t)) (zR (zz (kdN u n) t)) (zL (zz (kdN u n) t)) nmI nmR nmL := NM.ag ((x2.tr y2) 20 (by omega)) (fun j _ _ => fr2 _ (by omega))
        have e20b : fs2[20]? = some (.int (nI d)) := f20b ((F.ob x2 x3).ob y2 y3)
        have eX0 : eXz (kdN u n) (vaN u n) t = 0 := eX_0 (by omega) (Or.inl (by omega))
        have eX1 := eX_8 (vl := vaN u n) (z1 e).1 k2
        have eL : toL (kdN u n) (t + 1) = toL (kdN u n) t := toL_0 (show zN (zS (zz (kdN u n) t)) = false from by rw [z0]; rfl)
        have W1 : WRs (kdN u n) (vaN u n) (plN u n) (t + 1) wo wp := W.s0 eX0
        have nl := fun (hF : ∀ i, i < t → eXz (kdN u n) (vaN u n) i = 0) => never_l (d := d) (nmL := nmL) (g14 := g14) (x := vaN u n (t + 1)) hX0 hF n3 (fun i hi hs => (y5 i hi hs).1)
        have all0 : (∀ i, i < t + 1 → eXz (kdN u n) (vaN u n) i = 0) → ∀ i, i < t → eXz (kdN u n) (vaN u n) i = 0 := fun hh i hi => hh i (by omega)
        have wrg : (wo = 0 → (zG (kdN u n) (vaN u n) (toL (kdN u n) t) (vaN u n (t + 1))) = none) → Go l G 12 s_X12_tellNever 0 0 Post 72 [(3, .int (fdN nmL (vaN u n (t + 1)) (zL (zz (kdN u n) t)))), (2, .int (nI (t + 1))), (1, .int (nI (6 * d + zV (zz (kdN u n) t)))), (0, .ref o)] [] h2 nx 0 0 := by
          intro hno
          refine Go.of hX.2 ck_X12_tellNever [78] 20 ?_
          refine Exists.intro _ (And.intro y1.1.1 (Exists.intro 0 (Exists.intro 0 (And.intro (Nat.le_refl _) (And.intro (Nat.le_refl _) (m_wrong (k := 4) (j := t + 1) hX y1 T3 t1m hm hn (W1.c hu (Nat.le_refl _) (st1 e).1 hn).1 ((W1.c hu (Nat.le_refl _) (st1 e).1 hn).2.imp id (fun ⟨y, e1, e2, e3⟩ => ⟨y, e1, e2, Nat.ne_of_lt e3⟩)) (fun hh h4 fs4 v1 v2 v3 => ?_) (fun hh => ?_)))))))
          · have w0 : wo = 0 := by
              rcases (W1.c hu (Nat.le_refl _) (st1 e).1 hn).2 with z | ⟨y, e1, e2, e3⟩
              · exact z
              · rcases hh with z | ⟨q2, x, x2, x3⟩
                · exact z
                · have := (nI_eq (by omega) (by omega)).mp (e1.symm.trans x)
                  omega
            have en := hno w0
            rw [eL, en, show (Option.none : Option Nat).isNone = true from rfl, if_pos rfl] at eX1
            have W4 := W1.s1 eX1 (by decide)
            rw [show wUp wo wp 4 (plN u n (t + 1)) = (4, nI (plN u n (t + 1))) from if_pos w0] at W4
            exact go_loc (lv' := [(3, .int (fdN nmL (vaN u n (t + 1)) (zL (zz (kdN u n) t)))), (2, .int (nI (t + 1))), (1, .int (nI (6 * d + zV (zz (kdN u n) t)))), (0, .ref o)]) ⟨rfl, rfl, rfl, rfl, trivial⟩ (at78 h4 fs4 4 (nI (plN u n (t + 1))) _ _ k2 v4 W4 (fun hh => by have := hh (t + 1) (Nat.le_refl _); rw [eX1] at this; cases this) v1 ((x2.tr y2).tr v2) (fun x hx => (v3 x hx).trans (fr2 x hx)))
          · have W4 := W1.far hh.1 (show t + 1 ≤ t + 2 by omega)
            have hlm2 : (∀ j, j ≤ t + 1 → eXz (kdN u n) (vaN u n) j = 0) → fdN nmL (vaN u n (t + 1)) (zL (zz (kdN u n) t)) = nI ((zG (kdN u n) (vaN u n) (toL (kdN u n) (t + 1)) (vaN u n (t + 1))).getD 0) := fun hh2 => by
              rcases W1 with ⟨z, _⟩ | ⟨i, z1, z2, _⟩
              · exact absurd z hh.1
              · exact absurd (hh2 i (by omega)) z2
            exact go_loc (lv' := [(3, .int (fdN nmL (vaN u n (t + 1)) (zL (zz (kdN u n) t)))), (2, .int (nI (t + 1))), (1, .int (nI (6 * d + zV (zz (kdN u n) t)))), (0, .ref o)]) ⟨rfl, rfl, rfl, rfl, trivial⟩ (at78 h2 fs2 wo wp _ _ k2 v4 W4 hlm2 y1 (x2.tr y2) fr2)
        have okk : (∀ (hF : ∀ i, i < t → eXz (kdN u n) (vaN u n) i = 0), ∃ g, zG (kdN u n) (vaN u n) (toL (kdN u n) t) (vaN u n (t + 1)) = some g ∧ fdN nmL (vaN u n (t + 1)) (zL (zz (kdN u n) t)) = nI g) → Go l G 12 s_X12_tellNever 0 0 Post 78 [(3, .int (fdN nmL (vaN u n (t + 1)) (zL (zz (kdN u n) t)))), (2, .int (nI (t + 1))), (1, .int (nI (6 * d + zV (zz (kdN u n) t)))), (0, .ref o)] [] h2 nx 0 0 := by
          intro hg
          have W4 : WRs (kdN u n) (vaN u n) (plN u n) (t + 2) wo wp := by
            rcases W1 with ⟨z, z2⟩ | ⟨i, z1, z2, z3⟩
            · obtain ⟨g, g1, _⟩ := hg (all0 z2)
              rw [eL, g1, show (Option.some g).isNone = false from rfl, if_neg (by decide)] at eX1
              exact (show WRs _ _ _ (t + 1) wo wp from Or.inl ⟨z, z2⟩).s0 eX1
            · exact Or.inr ⟨i, by omega, z2, z3⟩
          refine at78 h2 fs2 wo wp _ _ k2 v4 W4 (fun hh => ?_) y1 (x2.tr y2) fr2
          obtain ⟨g, g1, g2⟩ := hg (fun i hi => hh i (by omega))
          rw [eL, g1, g2]
          rfl
        have r14 := (fr2 (o + 1 + 14) (by omega)).trans y14
        refine Exists.intro _ (And.intro y1.1.1 (Exists.intro _ (And.intro y1.2.2.1 ?_)))
        refine And.intro (fun _ => ?_) (fun cz => by first | exact absurd cz (by decide) | exact absurd (by decide) cz)
        refine Exists.intro _ (And.intro y1.1.1 (Exists.intro _ (And.intro (y1.1.2.2 5 (by decide)) ?_)))
        refine Exists.intro _ (Exists.intro _ (And.intro b5 (And.intro (vp_in_nI (show t + 1 < 403 by omega) (by decide)) ?_)))
        rw [nI_clamp (show t + 1 < 2 ^ 31 by omega), (p (t + 1) t1m).2.2.2 k2]
        refine Exists.intro _ (And.intro y1.1.1 (Exists.intro 0 (Exists.intro 0 (And.intro (Nat.le_refl _) (And.intro (Nat.le_refl _) (m_laNm hX y1.1 N2 ?_))))))
        rcases fdN_c (nm := nmL) (x := vaN u n (t + 1)) (zL (zz (kdN u n) t)) (by omega) with ⟨q, _⟩ | ⟨k, k1', k2', k3', _⟩
        · refine And.intro (fun _ => ?_) (fun cz => absurd (q) cz)
          have hsd : wo = 0 → zG (kdN u n) (vaN u n) (toL (kdN u n) t) (vaN u n (t + 1)) = none := fun w0 => by
            have hF : ∀ i, i < t → eXz (kdN u n) (vaN u n) i = 0 := by
              rcases W1 with ⟨_, z2⟩ | ⟨i, z1, z2, z3, _⟩
              · exact all0 z2
              · omega
            rcases nl hF with ⟨g, g1, g2, g3, _⟩ | ⟨g1, _⟩
            · exact absurd (g3.symm.trans q) (nm1 g (by omega))
            · exact g1
          exact go_loc (lv' := [(3, .int (fdN nmL (vaN u n (t + 1)) (zL (zz (kdN u n) t)))), (2, .int (nI (t + 1))), (1, .int (nI (6 * d + zV (zz (kdN u n) t)))), (0, .ref o)]) ⟨rfl, rfl, rfl, rfl, trivial⟩ (wrg hsd)
        · have egr : (5 : Int32) * nI d + fdN nmL (vaN u n (t + 1)) (zL (zz (kdN u n) t)) = nI (5 * d + k) := by rw [k3', show (5 : Int32) = nI 5 from rfl, nI_mul, nI_add]
          refine And.intro (fun cz => absurd cz (fun z => nm1 k (by omega) (k3'.symm.trans z))) (fun _ => ?_)
          refine Exists.intro _ (And.intro y1.1.1 (Exists.intro _ (And.intro (y1.1.2.2 14 (by decide)) ?_)))
          refine Exists.intro _ (And.intro y1.1.1 (Exists.intro _ (And.intro e20b ?_)))
          refine Exists.intro 3 (Exists.intro _ (Exists.intro _ (And.intro r14 (And.intro (Or.inr rfl) (And.intro (by rw [egr]; exact vp_in_nI (show 5 * d + k < 25 by omega) (by decide)) ?_)))))
          rw [egr, nI_clamp (show 5 * d + k < 2 ^ 31 by omega)]
          obtain ⟨i, i1, i2, i3, i4, _⟩ := exL hX0 k1'
          have gv := (y5 i i1 i2).1
          rw [i4] at gv
          rw [gv]
          by_cases c9 : zT (zz (kdN u n) i) = 9
          · rw [decide_eq_true c9] at gv ⊢
            refine And.intro (fun _ => ?_) (fun cz => absurd cz ((show ¬ nI true.toNat = 0 from by decide)))
            have hsd : ∀ (hF : ∀ i, i < t → eXz (kdN u n) (vaN u n) i = 0), ∃ g, zG (kdN u n) (vaN u n) (toL (kdN u n) t) (vaN u n (t + 1)) = some g ∧ fdN nmL (vaN u n (t + 1)) (zL (zz (kdN u n) t)) = nI g := fun hF => by
              rcases nl hF with ⟨g, g1, g2, g3, _⟩ | ⟨_, g2 | ⟨q, q1, q2, q3⟩⟩
              · exact ⟨g, g1, g3⟩
              · exact absurd (k3'.symm.trans g2) (nm1 k (by omega))
              · have e : k = q := (nI_eq (by omega) (by omega)).mp (k3'.symm.trans q2)
                rw [← e, gv] at q3
                exact absurd q3 (by decide)
            exact go_loc (lv' := [(3, .int (fdN nmL (vaN u n (t + 1)) (zL (zz (kdN u n) t)))), (2, .int (nI (t + 1))), (1, .int (nI (6 * d + zV (zz (kdN u n) t)))), (0, .ref o)]) ⟨rfl, rfl, rfl, rfl, trivial⟩ (okk hsd)
          · rw [decide_eq_false c9] at gv ⊢
            refine And.intro (fun cz => absurd ((show nI false.toNat = 0 from rfl)) cz) (fun _ => ?_)
            have hsd : wo = 0 → zG (kdN u n) (vaN u n) (toL (kdN u n) t) (vaN u n (t + 1)) = none := fun w0 => by
              have hF : ∀ i, i < t → eXz (kdN u n) (vaN u n) i = 0 := by
                rcases W1 with ⟨_, z2⟩ | ⟨i, z1, z2, z3, _⟩
                · exact all0 z2
                · omega
              rcases nl hF with ⟨g, g1, g2, g3, g4⟩ | ⟨g1, _⟩
              · have e : k = g := (nI_eq (by omega) (by omega)).mp (k3'.symm.trans g3)
                rw [← e, gv] at g4
                exact absurd g4 (by decide)
              · exact g1
            exact go_loc (lv' := [(3, .int (fdN nmL (vaN u n (t + 1)) (zL (zz (kdN u n) t)))), (2, .int (nI (t + 1))), (1, .int (nI (6 * d + zV (zz (kdN u n) t)))), (0, .ref o)]) ⟨rfl, rfl, rfl, rfl, trivial⟩ (wrg hsd)
  refine en_X12_tellNever hX [18] 40 rfl ?_
  refine Exists.intro _ (And.intro P.1.1 (Exists.intro _ (And.intro e20 ?_)))
  refine Exists.intro _ (And.intro P.1.1 (Exists.intro _ (And.intro (P.1.2.2 16 (by decide)) ?_)))
  refine Exists.intro _ (And.intro P.1.1 (Exists.intro _ (And.intro e20 ?_)))
  refine Exists.intro _ (Exists.intro _ (And.intro a1 (And.intro (vp_in_nI hd5 (by decide)) ?_)))
  rw [nI_clamp (show d < 2 ^ 31 by omega), a5]
  exact go_loc (lv' := [(1, .int (6 * nI d + nI (zV (zz (kdN u n) t)))), (0, .ref o)]) ⟨rfl, rfl, trivial⟩ (at17 _ ei)
