/-! the model reads: a lamp is told -/
set_option maxHeartbeats 16000000 in
set_option maxHeartbeats 8000000 in
theorem m_tellLampZ {l : Launch} {G : GG} {h : AH} {nx : Nat} {Post : Option Value → AH → Nat → Prop} {o d n m N t : Nat} {u : Nat → Nat} {h0 : AH} {fs fs0 : List Value} (hX : XC G ∧ TX l G) (hS : BSt u n o d N h0 fs0 h fs t) (hT : tokM h o u n m) (hu : ∀ i, u i < 256) (ht : t < m) (hm : m ≤ 401) (hn : n ≤ 2000) (hE : tkEnd u n m) (hZ : zEnd (kdN u n) N) (hX0 : TXT (kdN u n) t) (hk : kdN u n t = 8 ∨ kdN u n t = 9) (h5 : zL (zz (kdN u n) t) < 5) (f20 : fs0[20]? = some (.int (nI d))) (hd : d < 4) (hB : ∀ (h1 : AH) (fs1 : List Value), PFl h1 o fs1 (zFt (kdN u n) N) (plN u n N) → FRM o d h0 fs0 h1 fs1 → Post none h1 nx) (hP : ∀ (t2 : Nat) (h1 : AH) (fs1 : List Value), t < t2 → t2 < m → TXT (kdN u n) t2 → BSt u n o d N h0 fs0 h1 fs1 t2 → tokM h1 o u n m → Post none h1 nx) : Runs l G i_X12_tellLamp 0 0 [.ref o] h nx Post := by
  have hkd := kdN_lt hu n
  obtain ⟨⟨wo, wp, M, W⟩, s1, s2, s3, s4, s5⟩ := hS
  obtain ⟨⟨wg, P⟩, F, K0, C0⟩ := id M
  have f20b : ∀ {h1 : AH} {fs1 : List Value}, FRM o d h0 fs0 h1 fs1 → fs1[20]? = some (.int (nI d)) := fun hF => (hF.1 20 (by omega)).trans f20
  have e20 : fs[20]? = some (.int (nI d)) := f20b F
  have T0 : tokM h0 o u n m := hT.ag (fun x x1 x2 => (F.2.1 x (by omega) (Or.inl (by omega))).symm)
  obtain ⟨nmI, nmR, nmL, NM, n1, n2, n3⟩ := names_of hX0 e20 (by omega) s1 s2 s3
  have TW := tw_any (vl := vaN u n) hX0 n1 n2 n3
  obtain ⟨g13, g14, g15, a1, a2, a3, a5, _⟩ := id s3
  have z0 : zS (zz (kdN u n) t) = 0 := hX0.2.2
  have ha := hX0.2.1
  have w0 := zW_all hkd ha
  have ei : (5 : Int32) * nI d + nI (zL (zz (kdN u n) t)) = nI (5 * d + zL (zz (kdN u n) t)) := by rw [show (5 : Int32) = nI 5 from rfl, nI_mul, nI_add]
  have e6 : (6 : Int32) + nI (zL (zz (kdN u n) t)) = nI (6 + zL (zz (kdN u n) t)) := by rw [show (6 : Int32) = nI 6 from rfl, nI_add]
  have e10 : (10 : Int32) + nI (zL (zz (kdN u n) t)) = nI (10 + zL (zz (kdN u n) t)) := by rw [show (10 : Int32) = nI 10 from rfl, nI_add]
  have b0 : zB (zS (zz (kdN u n) t)) (zD (zz (kdN u n) t)) (kdN u n t) = some 7 := by
    rw [z0]
    rcases hk with e | e <;> rw [e] <;> rfl
  have O0 : zO (zz (kdN u n) t) (kdN u n t) = false := by
    have : decide (5 ≤ zL (zz (kdN u n) t)) = false := decide_eq_false (by omega)
    rcases hk with e | e <;> rw [e] <;> exact this
  have k0 : kdN u n t ≠ 0 := by omega
  have hd5 : d < 5 := by omega
  have hk25 : 5 * d + zL (zz (kdN u n) t) < 25 := by omega
  have hkm : mkK (kdN u n t) = 25 ↔ kdN u n t = 9 := ⟨fun z => mkK_inj _ (hkd t) 9 (by decide) z, fun z => by rw [z]; rfl⟩
  -- behind a fault
  have f43 : ∀ (h1 : AH) (fs1 : List Value) (v : Int64), PFl h1 o fs1 (zFt (kdN u n) N) (plN u n N) → FRM o d h0 fs0 h1 fs1 → h1 (o + 1 + 13) = h (o + 1 + 13) → Go l G 12 s_X12_tellLamp 0 0 Post 43 [(2, .long v), (1, .int (nI (5 * d + zL (zz (kdN u n) t)))), (0, .ref o)] [] h1 nx 0 0 := by
    intro h1 fs1 v x1 x2 x3
    have r13 := x3.trans a1
    have q20 := f20b x2
    refine Go.of hX.2 ck_X12_tellLamp [] 60 ?_
    refine Exists.intro _ (And.intro x1.1.1 (Exists.intro _ (And.intro (x1.1.2.2 13 (by decide)) ?_)))
    refine Exists.intro _ (And.intro x1.1.1 (Exists.intro _ (And.intro q20 ?_)))
    refine Exists.intro _ (Exists.intro _ (And.intro r13 (And.intro (vp_in_nI hd5 (by decide)) ?_)))
    rw [nI_clamp (show d < 2 ^ 31 by omega), a5]
    refine Exists.intro _ (And.intro x1.1.1 (Exists.intro _ (And.intro (x1.1.2.2 13 (by decide)) ?_)))
    refine Exists.intro _ (And.intro x1.1.1 (Exists.intro _ (And.intro q20 ?_)))
    refine Exists.intro _ (Exists.intro _ (And.intro r13 (And.intro (vp_in_nI hd5 (by decide)) ?_)))
    rw [nI_clamp (show d < 2 ^ 31 by omega), a5]
    refine Exists.intro _ (And.intro x1.1.1 (Exists.intro 0 (Exists.intro 0 (And.intro (Nat.le_refl _) (And.intro (Nat.le_refl _) (m_circuitF hX x1 x2 e6 q20 hd (by omega) (fun h2 fs2 y1 y2 y3 y4 => ?_)))))))
    refine Exists.intro _ (And.intro y1.1.1 (Exists.intro 0 (Exists.intro 0 (And.intro (Nat.le_refl _) (And.intro (Nat.le_refl _) (m_mustF hX y1 ?_))))))
    refine Exists.intro _ (And.intro y1.1.1 (Exists.intro _ (And.intro y1.2.2.1 ?_)))
    have fb := y1.2.2.2.2
    refine And.intro (fun cz => absurd cz (show ¬ nI (zFt (kdN u n) N) ≤ 0 from nI_ge (a := 0) fb.1 (by omega))) (fun _ => ?_)
    exact hB h2 fs2 y1 y2
  have f38 : ∀ (h1 : AH) (fs1 : List Value) (v : Int64), PFl h1 o fs1 (zFt (kdN u n) N) (plN u n N) → FRM o d h0 fs0 h1 fs1 → h1 (o + 1 + 13) = h (o + 1 + 13) → Go l G 12 s_X12_tellLamp 0 0 Post 38 [(2, .long v), (1, .int (nI (5 * d + zL (zz (kdN u n) t)))), (0, .ref o)] [] h1 nx 0 0 := by
    intro h1 fs1 v x1 x2 x3
    refine Go.of hX.2 ck_X12_tellLamp [43] 60 ?_
    refine Exists.intro _ (And.intro x1.1.1 (Exists.intro 0 (Exists.intro 0 (And.intro (Nat.le_refl _) (And.intro (Nat.le_refl _) (m_mustF hX x1 ?_))))))
    exact go_loc (lv' := [(2, .long v), (1, .int (nI (5 * d + zL (zz (kdN u n) t)))), (0, .ref o)]) ⟨rfl, rfl, rfl, trivial⟩ (f43 h1 fs1 v x1 x2 x3)
  -- the head's tokens
  have st1 : t < 400 → (∀ i, i < t + 1 → zok (kdN u n) i) ∧ zz (kdN u n) (t + 1) = zA (zz (kdN u n) t) (kdN u n t) 7 := fun h4 => by
    obtain ⟨_, _, x, y⟩ := zok_k hZ hkd ha h4 b0 O0
    exact ⟨x, y⟩
  have z1 : t < 400 → zS (zz (kdN u n) (t + 1)) = 7 ∧ zT (zz (kdN u n) (t + 1)) = kdN u n t ∧ zL (zz (kdN u n) (t + 1)) = zL (zz (kdN u n) t) ∧ zI (zz (kdN u n) (t + 1)) = zI (zz (kdN u n) t) ∧ zR (zz (kdN u n) (t + 1)) = zR (zz (kdN u n) t) ∧ zV (zz (kdN u n) (t + 1)) = zV (zz (kdN u n) t) := fun h4 => by
    rw [(st1 h4).2]
    exact ⟨zA_S _ _ _, by rw [zA_T, if_pos z0], by rw [zA_L, if_neg (by omega)], by rw [zA_I, if_neg (by omega)], by rw [zA_R, if_neg (by omega)], by rw [zA_V, if_neg (by omega)]⟩
  have st2 : t + 1 < 400 → kdN u n (t + 1) = 2 → (∀ i, i < t + 2 → zok (kdN u n) i) ∧ zz (kdN u n) (t + 2) = zA (zz (kdN u n) (t + 1)) (kdN u n (t + 1)) 6 := fun h4 h2 => by
    obtain ⟨_, _, x, y⟩ := zok_k (s := 6) hZ hkd (st1 (by omega)).1 h4 (by rw [(z1 (by omega)).1, h2]; rfl) (zC_h (by rw [(z1 (by omega)).1]; decide) h2)
    exact ⟨x, y⟩
  have z2 : t + 1 < 400 → kdN u n (t + 1) = 2 → zS (zz (kdN u n) (t + 2)) = 6 ∧ zT (zz (kdN u n) (t + 2)) = kdN u n t ∧ zL (zz (kdN u n) (t + 2)) = zL (zz (kdN u n) t) + 1 ∧ zI (zz (kdN u n) (t + 2)) = zI (zz (kdN u n) t) ∧ zR (zz (kdN u n) (t + 2)) = zR (zz (kdN u n) t) ∧ zV (zz (kdN u n) (t + 2)) = zV (zz (kdN u n) t) := fun h4 h2 => by
    obtain ⟨y1, y2, y3, y4, y5, y6⟩ := z1 (by omega)
    rw [(st2 h4 h2).2]
    exact ⟨zA_S _ _ _, by rw [zA_T, if_neg (by omega)]; exact y2, by rw [zA_L, if_pos ⟨y1, h2⟩, y3], by rw [zA_I, if_neg (by omega)]; exact y4, by rw [zA_R, if_neg (by omega)]; exact y5, by rw [zA_V, if_neg (by omega)]; exact y6⟩
  have at17 : ∀ v, v = nI (5 * d + zL (zz (kdN u n) t)) → Go l G 12 s_X12_tellLamp 0 0 Post 17 [(1, .int v), (0, .ref o)] [] h nx 0 0 := by
    intro v hv
    subst hv
    have P1 := P.row (j := 14) (e := .inl (3, 25, .inl (upd g14 (5 * d + zL (zz (kdN u n) t)) (nI (decide (kdN u n t = 9)).toNat)))) (rowS_i (by decide) rfl ⟨_, rfl⟩)
    refine Go.of hX.2 ck_X12_tellLamp [38] 60 ?_
    refine Exists.intro _ (And.intro P.1.1 (Exists.intro _ (And.intro (P.1.2.2 14 (by decide)) ?_)))
    refine Exists.intro _ (And.intro P.1.1 (Exists.intro 0 (Exists.intro 0 (And.intro (Nat.le_refl _) (And.intro (Nat.le_refl _) (m_is (k := 25) hX P hT hu ht hm (by decide) ?_))))))
    rw [show decide (mkK (kdN u n ((t, 0, 420 * d + (cG (kdN u n) t).2.length, 420 * d + gCn (kdN u n) t), (wN (kdN u n) t, wg, wo, wp)).1.1) = 25) = decide (kdN u n t = 9) from decide_eq_decide.mpr hkm]
    refine Exists.intro 3 (Exists.intro _ (Exists.intro _ (And.intro a2 (And.intro (Or.inr rfl) (And.intro (vp_in_nI hk25 (by decide)) ?_)))))
    rw [nI_clamp (show 5 * d + zL (zz (kdN u n) t) < 2 ^ 31 by omega), nar_b]
    generalize hh : uph h (o + 1 + 14) (.inl (3, 25, .inl (upd g14 (5 * d + zL (zz (kdN u n) t)) (nI (decide (kdN u n t = 9)).toNat)))) = H at P1
    have H14 : H (o + 1 + 14) = some (.inl (3, 25, .inl (upd g14 (5 * d + zL (zz (kdN u n) t)) (nI (decide (kdN u n t = 9)).toNat)))) := by rw [← hh]; exact uph_eq
    have Hf : ∀ x, x ≠ o + 1 + 14 → H x = h x := fun x hx => by rw [← hh]; exact uph_ne hx
    have T1 : tokM H o u n m := hT.ag (fun x x1 x2 => Hf x (by omega))
    have FH : FRM o d h0 fs0 H fs := F.up [14] (pfF.rf fs) (fun x y1 y2 => Hf x (y2 14 (by decide))) ⟨⟨by decide, by decide, fun _ => rowZ.u a2 H14 (show 5 * d ≤ _ by omega)⟩, True.intro⟩
    have good : ∀ (h2 : AH) (fs2 : List Value) (wo' : Nat) (wp' : Int32), kdN u n (t + 1) = 2 → t + 1 < 400 → (twN nmI nmR nmL (zI (zz (kdN u n) t)) (zR (zz (kdN u n) t)) (zL (zz (kdN u n) t)) (vaN u n (t + 1)) ∧ (wo', wp') = wUp wo wp 3 (plN u n (t + 1)) ∨ ¬ twN nmI nmR nmL (zI (zz (kdN u n) t)) (zR (zz (kdN u n) t)) (zL (zz (kdN u n) t)) (vaN u n (t + 1)) ∧ (wo', wp') = (wo, wp)) → PRs h2 o fs2 ((t + 2, 0, 420 * d + (cG (kdN u n) t).2.length, 420 * d + gCn (kdN u n) t), (wN (kdN u n) t, wg, wo', wp')) → pfF fs fs2 → (∀ x, x ≠ o → h2 x = H x) → Go l G 12 s_X12_tellLamp 0 0 Post 38 [(2, .long (vaN u n (t + 1))), (1, .int (nI (5 * d + zL (zz (kdN u n) t)))), (0, .ref o)] [] h2 nx 0 0 := by
      intro h1 fs1 wo' wp' k2 h4 hW P1 pf1 fr1
      obtain ⟨y1, y2, y3, y4, y5, y6⟩ := z2 h4 k2
      obtain ⟨v1, v2, v3, _⟩ := z1 (by omega)
      have hta := (st2 h4 k2).1
      have htm : t + 2 < m := hE.s (hE.s ht k0 (by omega)) (by omega) h4
      have zn1 : zN (zS (zz (kdN u n) (t + 1))) = true := by rw [v1]; rfl
      have eX0 : eXz (kdN u n) (vaN u n) t = 0 := eX_0 (by omega) (Or.inl (by omega))
      have eX1 := eX_n (vl := vaN u n) zn1 k2
      rw [toL_0 (show zN (zS (zz (kdN u n) t)) = false from by rw [z0]; rfl)] at eX1
      have W1 : WRs (kdN u n) (vaN u n) (plN u n) (t + 2) wo' wp' := by
        rcases hW with ⟨y1, y2⟩ | ⟨y1, y2⟩
        · rw [if_pos ((TW _).mp y1)] at eX1
          have w := (W.s0 eX0).s1 eX1 (by decide)
          rw [← y2] at w
          exact w
        · rw [if_neg (fun z => y1 ((TW _).mpr z))] at eX1
          have w := (W.s0 eX0).s0 eX1
          cases y2
          exact w
      have hdt : zD (zz (kdN u n) (t + 2)) = 0 := (zW_all hkd hta).2.2.2.2.2.2.2.2.1 (by omega)
      have k5 : mkK (kdN u n (t + 2)) = 5 ↔ kdN u n (t + 2) = 13 := ⟨fun z => mkK_inj _ (hkd _) 13 (by decide) z, fun z => by rw [z]; rfl⟩
      have k4 : ∀ j, mkK (kdN u n j) = 4 ↔ kdN u n j = 12 := fun j => (kk9 hkd j).2.2.2.2.1
      have F1 : FRM o d h0 fs0 h1 fs1 := FH.ob pf1 fr1
      have rs1 : ∀ j, j < 63 → j ≠ 14 → h1 (o + 1 + j) = h (o + 1 + j) := fun j _ w2 => (fr1 _ (by omega)).trans (Hf _ (by omega))
      have r14 : h1 (o + 1 + 14) = some (.inl (3, 25, .inl (upd g14 (5 * d + zL (zz (kdN u n) t)) (nI (decide (kdN u n t = 9)).toNat)))) := (fr1 _ (by omega)).trans H14
      have T1b : tokM h1 o u n m := T1.ag (fun x x1 x2 => fr1 x (by omega))
      have seg : ∀ i, t ≤ i → i < t + 2 → zS (zz (kdN u n) i) < 10 ∧ kdN u n i ≠ 13 ∧ kdN u n i ≠ 11 := fun i i1 i2 => by
        have : i = t ∨ i = t + 1 := by omega
        rcases this with e | e <;> rw [e] <;> omega
      refine Go.of hX.2 ck_X12_tellLamp [43] 60 ?_
      refine Exists.intro _ (And.intro P1.1.1 (Exists.intro 0 (Exists.intro 0 (And.intro (Nat.le_refl _) (And.intro (Nat.le_refl _) (m_must (k := 5) hX P1 T1b hu htm hm (by decide) (fun f h2 fs2 v0 v1 v2 v3 => ?_) (fun v0 v4 h2 fs2 x1 x2 x3 => ?_)))))))
      · have tie : N = t + 2 ∧ zFt (kdN u n) N = f := mst_tie hkd hZ hta (K := 13) (s2 := 10) (fun k hk => by rw [y1]; exact if_neg hk) (by rw [y1]; rfl) (by omega) (v0.imp (fun z => ⟨fun w => z.1 (k5.mpr w), z.2⟩) (fun z => ⟨k5.mp z.1, z.2⟩))
        exact go_loc (lv' := [(2, .long (vaN u n (t + 1))), (1, .int (nI (5 * d + zL (zz (kdN u n) t)))), (0, .ref o)]) ⟨rfl, rfl, rfl, trivial⟩ (f43 h2 fs2 (vaN u n (t + 1)) (by rw [tie.2, tie.1]; exact v1) (F1.ob v2 v3) ((v3 _ (by omega)).trans (rs1 13 (by decide) (by decide))))
      · have k13 := k5.mp v0
        obtain ⟨_, _, c3, c4⟩ := zok_k (s := 10) hZ hkd hta v4 (by rw [y1, k13]; rfl) (by rw [k13]; rfl)
        have c3 : ∀ i, i < t + 3 → zok (kdN u n) i := c3
        have c4 : zz (kdN u n) (t + 3) = zA (zz (kdN u n) (t + 2)) (kdN u n (t + 2)) 10 := c4
        have cS : zS (zz (kdN u n) (t + 3)) = 10 := by rw [c4, zA_S]
        have cT : zT (zz (kdN u n) (t + 3)) = kdN u n t := by rw [c4, zA_T, if_neg (by omega)]; exact y2
        have cL : zL (zz (kdN u n) (t + 3)) = zL (zz (kdN u n) t) + 1 := by rw [c4, zA_L, if_neg (by omega)]; exact y3
        have cI : zI (zz (kdN u n) (t + 3)) = zI (zz (kdN u n) t) := by rw [c4, zA_I, if_neg (by omega)]; exact y4
        have cR : zR (zz (kdN u n) (t + 3)) = zR (zz (kdN u n) t) := by rw [c4, zA_R, if_neg (by omega)]; exact y5
        have cV : zV (zz (kdN u n) (t + 3)) = zV (zz (kdN u n) t) := by rw [c4, zA_V, if_neg (by omega)]; exact y6
        have cD : zD (zz (kdN u n) (t + 3)) = 0 := by rw [c4, zA_D (by omega), if_neg (by omega), if_neg (by omega)]; exact hdt
        have seg2 : ∀ i, t ≤ i → i < t + 3 → zS (zz (kdN u n) i) < 10 := fun i i1 i2 => by
          by_cases e : i = t + 2
          · rw [e]; omega
          · exact (seg i i1 (by omega)).1
        have F2 := F1.ob x2 x3
        have rs2 : ∀ j, j < 63 → j ≠ 14 → h2 (o + 1 + j) = h (o + 1 + j) := fun j w1 w2 => (x3 _ (by omega)).trans (rs1 j w1 w2)
        have T2 : tokM h2 o u n m := T1b.ag (fun x x1 x2 => x3 x (by omega))
        have M2 : MRt (kdN u n) o d h0 fs0 h2 fs2 (t + 3) wo' wp' := M.jump hkd c3 (by omega) seg2 x1 F2 (fun j hj => rs2 j (by have := jump_k j hj; omega) (by have := jump_k j hj; omega))
        have hc0 : (cG (kdN u n) (t + 3)).1 = [] := by
          rw [(hd_seg hkd c3 (show t ≤ t + 3 by omega) seg2).1]
          exact (cG_w hkd ha).2.2.1 (by omega)
        obtain ⟨g23, g24, g25, g26, g28, y23, y24, y25, y26, y28, _⟩ := id s5
        have q20 := f20b F2
        have r13 := (rs2 13 (by decide) (by decide)).trans a1
        have emO : mOw (zz (kdN u n) (t + 3)) = 10 + zL (zz (kdN u n) t) := by
          unfold mOw
          rw [cT, if_neg (by omega), cL, Nat.add_sub_cancel]
        have ecN : cN (zz (kdN u n) (t + 3)) = 6 + zL (zz (kdN u n) t) := by
          unfold cN
          rw [cT, if_neg (by omega), if_neg (by omega), cL, Nat.add_sub_cancel]
        have t1m : t + 3 < m := hE.s htm (by omega) v4
        refine go_loc (lv' := [(2, .long (vaN u n (t + 1))), (1, .int (nI (5 * d + zL (zz (kdN u n) t)))), (0, .ref o)]) ⟨rfl, rfl, rfl, trivial⟩ ?_
        refine Go.of hX.2 ck_X12_tellLamp [] 90 ?_
        refine Exists.intro _ (And.intro x1.1.1 (Exists.intro _ (And.intro (x1.1.2.2 13 (by decide)) ?_)))
        refine Exists.intro _ (And.intro x1.1.1 (Exists.intro _ (And.intro q20 ?_)))
        refine Exists.intro _ (Exists.intro _ (And.intro r13 (And.intro (vp_in_nI hd5 (by decide)) ?_)))
        rw [nI_clamp (show d < 2 ^ 31 by omega), a5]
        refine Exists.intro _ (And.intro x1.1.1 (Exists.intro _ (And.intro (x1.1.2.2 13 (by decide)) ?_)))
        refine Exists.intro _ (And.intro x1.1.1 (Exists.intro _ (And.intro q20 ?_)))
        refine Exists.intro _ (Exists.intro _ (And.intro r13 (And.intro (vp_in_nI hd5 (by decide)) ?_)))
        rw [nI_clamp (show d < 2 ^ 31 by omega), a5]
        refine Exists.intro _ (And.intro x1.1.1 (Exists.intro 0 (Exists.intro 0 (And.intro (Nat.le_refl _) (And.intro (Nat.le_refl _) (m_circuit hX M2 e6 T2 hu hn t1m hm hE hZ c3 cS cD hc0 q20 hd (by omega) (Or.inr ⟨by rw [cT]; omega, by rw [emO]; exact e10, by rw [emO]; omega⟩) ((rs2 23 (by decide) (by decide)).trans y23) ((rs2 24 (by decide) (by decide)).trans y24) ((rs2 25 (by decide) (by decide)).trans y25) ((rs2 26 (by decide) (by decide)).trans y26) ((rs2 28 (by decide) (by decide)).trans y28) (fun h3 fs3 z1 z2 => ?_) (fun j h3 fs3 gs1 j1 j2 j3 j4 j5 j6 j7 j8 j9 j10 j11 j12 j13 j14 j15 j16 j17 j18 => ?_)))))))
        · refine Exists.intro _ (And.intro z1.1.1 (Exists.intro 0 (Exists.intro 0 (And.intro (Nat.le_refl _) (And.intro (Nat.le_refl _) (m_mustF hX z1 ?_))))))
          refine Exists.intro _ (And.intro z1.1.1 (Exists.intro _ (And.intro z1.2.2.1 ?_)))
          have fb := z1.2.2.2.2
          refine And.intro (fun cz => absurd cz (show ¬ nI (zFt (kdN u n) N) ≤ 0 from nI_ge (a := 0) fb.1 (by omega))) (fun _ => ?_)
          exact hB h3 fs3 z1 z2
        · have P3 : PRs h3 o fs3 ((j, 0, 420 * d + ((cG (kdN u n) j).2 ++ (gsA 4 (cG (kdN u n) j).1).2).length, 420 * d + gCn (kdN u n) j), (wN (kdN u n) j, 0, wo', wp')) := j9.1
          have F3 : FRM o d h0 fs0 h3 fs3 := j9.2.1
          have T3 : tokM h3 o u n m := T0.ag (fun x x1 x2 => F3.2.1 x (by omega) (Or.inl (by omega)))
          refine Exists.intro _ (And.intro P3.1.1 (Exists.intro 0 (Exists.intro 0 (And.intro (Nat.le_refl _) (And.intro (Nat.le_refl _) (m_must (k := 4) hX P3 T3 hu j2 hm (by decide) (fun f h4 fs4 z0 z1 z2 z3 => ?_) (fun z0 z4 h4 fs4 z1 z2 z3 => ?_)))))))
          · have tie := semi_tie (f := f) hkd hZ j3 j5 j6 j7 j8 (z0.imp (fun z => ⟨fun w => z.1 ((k4 j).mpr w), z.2⟩) (fun z => ⟨(k4 j).mp z.1, z.2⟩))
            refine Exists.intro _ (And.intro z1.1.1 (Exists.intro _ (And.intro z1.2.2.1 ?_)))
            have fb := z1.2.2.2.2
            refine And.intro (fun cz => absurd cz (show ¬ nI f ≤ 0 from nI_ge (a := 0) fb.1 (by omega))) (fun _ => ?_)
            exact hB h4 fs4 (by rw [tie.2, tie.1]; exact z1) (F3.ob z2 z3)
          · have k12 := (k4 j).mp z0
            have P4 : PRs h4 o fs4 ((j + 1, 0, 420 * d + ((cG (kdN u n) j).2 ++ (gsA 4 (cG (kdN u n) j).1).2).length, 420 * d + gCn (kdN u n) j), (wN (kdN u n) j, 0, wo', wp')) := z1
            obtain ⟨e1, e2, e3, e4, e5, e6, e7⟩ := circ_end hkd hZ j3 (Nat.le_of_lt j1) j4 j5 j6 k12 z4 j9 P4 z2 z3
            have F4 := F3.ob z2 z3
            have q20b := f20b F4
            have rs4 : ∀ k, 7 ≤ k → k < 18 → k ≠ 14 → h4 (o + 1 + k) = h (o + 1 + k) := fun k w1 w2 w3 => (z3 _ (by omega)).trans ((j11 k (Or.inl ⟨w1, w2⟩)).trans (rs2 k (by omega) w3))
            have r15 := (rs4 15 (by decide) (by decide) (by decide)).trans a3
            have r13b := (rs4 13 (by decide) (by decide) (by decide)).trans a1
            have r14b : h4 (o + 1 + 14) = some (.inl (3, 25, .inl (upd g14 (5 * d + zL (zz (kdN u n) t)) (nI (decide (kdN u n t = 9)).toNat)))) := (z3 _ (by omega)).trans ((j11 14 (Or.inl ⟨by decide, by decide⟩)).trans ((x3 _ (by omega)).trans r14))
            refine Exists.intro _ (And.intro z1.1.1 (Exists.intro _ (And.intro z1.2.2.1 ?_)))
            refine And.intro (fun _ => ?_) (fun cz => by first | exact absurd cz (by decide) | exact absurd (by decide) cz)
            refine Exists.intro _ (And.intro z1.1.1 (Exists.intro _ (And.intro (z1.1.2.2 15 (by decide)) ?_)))
            refine Exists.intro _ (Exists.intro _ (And.intro r15 (And.intro (vp_in_nI hk25 (by decide)) ?_)))
            rw [nI_clamp (show 5 * d + zL (zz (kdN u n) t) < 2 ^ 31 by omega)]
            have Q1 := z1.row (j := 15) (e := .inl (1, 25, .inr (.inl (vp_updL g15 (5 * d + zL (zz (kdN u n) t)) (vaN u n (t + 1)))))) ⟨_, rfl⟩
            refine Exists.intro _ (And.intro Q1.1.1 (Exists.intro _ (And.intro (z1.1.2.2 13 (by decide)) ?_)))
            refine Exists.intro _ (And.intro Q1.1.1 (Exists.intro _ (And.intro q20b ?_)))
            refine Exists.intro _ (Exists.intro _ (And.intro ((uph_ne (by omega)).trans r13b) (And.intro (vp_in_nI hd5 (by decide)) ?_)))
            rw [nI_clamp (show d < 2 ^ 31 by omega), a5]
            refine Exists.intro _ (Exists.intro _ (And.intro ((uph_ne (by omega)).trans r13b) (And.intro (vp_in_nI hd5 (by decide)) ?_)))
            rw [nI_clamp (show d < 2 ^ 31 by omega), show nI (zL (zz (kdN u n) t)) + 1 = nI (zL (zz (kdN u n) t) + 1) from (nI_succ _).symm]
            have e3b := e3
            obtain ⟨⟨wg4, P5⟩, _⟩ := e3b
            have Q5 := (P5.row (j := 15) (e := .inl (1, 25, .inr (.inl (vp_updL g15 (5 * d + zL (zz (kdN u n) t)) (vaN u n (t + 1)))))) ⟨_, rfl⟩).row (j := 13) (e := .inl (0, 5, .inl (upd g13 d (nI (zL (zz (kdN u n) t) + 1))))) (rowS_i (by decide) rfl ⟨_, rfl⟩)
            generalize hh : uph (uph h4 (o + 1 + 15) (.inl (1, 25, .inr (.inl (vp_updL g15 (5 * d + zL (zz (kdN u n) t)) (vaN u n (t + 1))))))) (o + 1 + 13) (.inl (0, 5, .inl (upd g13 d (nI (zL (zz (kdN u n) t) + 1))))) = h5' at Q5
            have H13 : h5' (o + 1 + 13) = some (.inl (0, 5, .inl (upd g13 d (nI (zL (zz (kdN u n) t) + 1))))) := by rw [← hh]; exact uph_eq
            have H15 : h5' (o + 1 + 15) = some (.inl (1, 25, .inr (.inl (vp_updL g15 (5 * d + zL (zz (kdN u n) t)) (vaN u n (t + 1)))))) := by rw [← hh, uph_ne (by omega)]; exact uph_eq
            have H5f : ∀ x, x ≠ o + 1 + 13 → x ≠ o + 1 + 15 → h5' x = h4 x := fun x x1 x2 => by rw [← hh, uph_ne x1, uph_ne x2]
            have F5 : FRM o d h0 fs0 h5' fs4 := F4.up [13, 15] (pfF.rf fs4) (fun x y1 y2 => H5f x (y2 13 (by decide)) (y2 15 (by decide))) ⟨⟨by decide, by decide, fun _ => rowZ.u r13b H13 (show 1 * d ≤ d by omega)⟩, ⟨by decide, by decide, fun _ => rowZ.l r15 H15 (fun x hx => pk_uLn (by have hx : x < 5 * d := hx; omega))⟩, True.intro⟩
            have M5 : MRt (kdN u n) o d h0 fs0 h5' fs4 (j + 1) wo' wp' := e3.jump hkd e2.2.1 (Nat.le_refl _) (fun i i1 i2 => by omega) Q5 F5 (fun k hk => H5f _ (by have := jump_k k hk; omega) (by have := jump_k k hk; omega))
            have rs5 : ∀ k, 7 ≤ k → k < 18 → k ≠ 14 → k ≠ 13 → k ≠ 15 → h5' (o + 1 + k) = h (o + 1 + k) := fun k w1 w2 w3 w4 w5 => (H5f _ (by omega) (by omega)).trans (rs4 k w1 w2 w3)
            have eXt : eXz (kdN u n) (vaN u n) (t + 2) = 0 := eX_0 (by omega) (Or.inl (by omega))
            have W5 : WRs (kdN u n) (vaN u n) (plN u n) (j + 1) wo' wp' := (W1.s0 eXt).seg (by omega) (eX_c j4 (by omega))
            have hCT : CTb h5' o d (kdN u n) (vaN u n) N (j + 1) := by
              refine s5.circ e2 e1 (a1 := t + 2) (by omega) (Or.inl k13) (fun i i1 i2 => ⟨(seg i i1 i2).2.1, (seg i i1 i2).2.2, (seg i i1 i2).1⟩) (by omega) (by omega) j4 k12 (by omega) y23 y24 y25 y26 y28 ?_ ?_ ?_ ?_ ((H5f _ (by omega) (by omega)).trans ((z3 _ (by omega)).trans j16)) j17 j18
              · rw [ecN]; exact (H5f _ (by omega) (by omega)).trans ((z3 _ (by omega)).trans j12)
              · rw [ecN]; exact (H5f _ (by omega) (by omega)).trans ((z3 _ (by omega)).trans j13)
              · rw [ecN]; exact (H5f _ (by omega) (by omega)).trans ((z3 _ (by omega)).trans j14)
              · rw [ecN]; exact (H5f _ (by omega) (by omega)).trans ((z3 _ (by omega)).trans j15)
            refine hP (j + 1) h5' fs4 (by omega) (hE.s j2 (by omega) z4) e2 ⟨⟨wo', wp', M5, W5⟩, ?_, ?_, ?_, ?_, hCT⟩ (T0.ag (fun x x1 x2 => F5.2.1 x (by omega) (Or.inl (by omega))))
            · exact s1.stay e2 (by omega) (fun k w1 w2 => rs5 k (by omega) (by omega) (by omega) (by omega) (by omega))
            · exact s2.stay e2 hX0.2.2 (by omega) (by omega) (fun k w1 w2 => rs5 k (by omega) (by omega) (by omega) (by omega) (by omega))
            · refine s3.more (i0 := t + 1) e2 (by omega) (by omega) v1 v3 a1 a2 a3 H13 ?_ H15
              rw [v2]
              exact (H5f _ (by omega) (by omega)).trans r14b
            · exact s4.stay e2 hX0.2.2 (by omega) (fun k w1 w2 => rs5 k (by omega) (by omega) (by omega) (by omega) (by omega))
    refine Exists.intro _ (And.intro P1.1.1 (Exists.intro 0 (Exists.intro 0 (And.intro (Nat.le_refl _) (And.intro (Nat.le_refl _) (m_goesOn hX P1 T1 ht hm (fun e h1 fs1 x1 x2 x3 => ?_) (fun e h1 fs1 x1 x2 x3 => ?_)))))))
    · obtain ⟨y1, y2⟩ := stop_2 hkd hZ ha b0 (Or.inl (by omega))
      refine Exists.intro _ (And.intro x1.1.1 (Exists.intro 0 (Exists.intro 0 (And.intro (Nat.le_refl _) (And.intro (Nat.le_refl _) (m_namedF hX x1 (T1.ag (fun x w1 w2 => x3 x (by omega))) (fun v => ?_)))))))
      exact go_loc (lv' := [(2, .long v), (1, .int (nI (5 * d + zL (zz (kdN u n) t)))), (0, .ref o)]) ⟨rfl, rfl, rfl, trivial⟩ (f38 h1 fs1 v (by rw [y2, y1]; exact x1) (FH.ob x2 x3) ((x3 _ (by omega)).trans (Hf _ (by omega))))
    · have T2 : tokM h1 o u n m := T1.ag (fun x w1 w2 => x3 x (by omega))
      have N2 : NMp h1 o fs1 d (zI (zz (kdN u n) t)) (zR (zz (kdN u n) t)) (zL (zz (kdN u n) t)) nmI nmR nmL := NM.ag8 (x2 20 (by omega)) (fun j hj => (x3 _ (by omega)).trans (Hf _ (by omega)))
      refine Exists.intro _ (And.intro x1.1.1 (Exists.intro 0 (Exists.intro 0 (And.intro (Nat.le_refl _) (And.intro (Nat.le_refl _) (m_named hX x1 T2 hu (hE.s ht k0 e) hm hn N2 (hC_of hu W ha hn k0).1 (hC_of hu W ha hn k0).2 (fun f h2 fs2 v y0 y1 y2 y3 => ?_) (fun k2 tl tw h2 fs2 y1 y2 y3 => ?_) (fun k2 tl tw h2 fs2 y1 y2 y3 => ?_)))))))
      · obtain ⟨q1, q2⟩ := mst_tie hkd hZ (st1 e).1 (K := 2) (s2 := 6) (fun k hk => by rw [(z1 e).1]; exact if_neg hk) (by rw [(z1 e).1]; rfl) (by rw [(z1 e).1]; decide) y0
        exact go_loc (lv' := [(2, .long v), (1, .int (nI (5 * d + zL (zz (kdN u n) t)))), (0, .ref o)]) ⟨rfl, rfl, rfl, trivial⟩ (f38 h2 fs2 v (by rw [q2, q1]; exact y1) ((FH.ob x2 x3).ob y2 y3) ((y3 _ (by omega)).trans ((x3 _ (by omega)).trans (Hf _ (by omega)))))
      · exact go_loc (lv' := [(2, .long (vaN u n (t + 1))), (1, .int (nI (5 * d + zL (zz (kdN u n) t)))), (0, .ref o)]) ⟨rfl, rfl, rfl, trivial⟩ (good h2 fs2 _ _ k2 tl (Or.inl ⟨tw, rfl⟩) y1 (x2.tr y2) (fun x hx => (y3 x hx).trans (x3 x hx)))
      · exact go_loc (lv' := [(2, .long (vaN u n (t + 1))), (1, .int (nI (5 * d + zL (zz (kdN u n) t)))), (0, .ref o)]) ⟨rfl, rfl, rfl, trivial⟩ (good h2 fs2 wo wp k2 tl (Or.inr ⟨tw, rfl⟩) y1 (x2.tr y2) (fun x hx => (y3 x hx).trans (x3 x hx)))
  refine en_X12_tellLamp hX [17] 40 rfl ?_
  refine Exists.intro _ (And.intro P.1.1 (Exists.intro _ (And.intro e20 ?_)))
  refine Exists.intro _ (And.intro P.1.1 (Exists.intro _ (And.intro (P.1.2.2 13 (by decide)) ?_)))
  refine Exists.intro _ (And.intro P.1.1 (Exists.intro _ (And.intro e20 ?_)))
  refine Exists.intro _ (Exists.intro _ (And.intro a1 (And.intro (vp_in_nI hd5 (by decide)) ?_)))
  rw [nI_clamp (show d < 2 ^ 31 by omega), a5]
  exact go_loc (lv' := [(1, .int (5 * nI d + nI (zL (zz (kdN u n) t)))), (0, .ref o)]) ⟨rfl, rfl, trivial⟩ (at17 _ ei)
