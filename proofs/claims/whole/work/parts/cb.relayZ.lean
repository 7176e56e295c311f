/-! the model reads: a relay is told -/
theorem zB4_n {d k : Nat} (h : k ≠ 7 ∧ k ≠ 13) : zB 4 d k = none := by
  show (if k = 7 then some 5 else if k = 13 then some 10 else (none : Option Nat)) = none
  rw [if_neg h.1, if_neg h.2]
theorem zC_h {kd : Nat → Nat} {t : Nat} (h : zS (zz kd t) < 10) (hk : kd t = 2) : zO (zz kd t) (kd t) = false := by
  rw [hk]
  show (zC (zz kd t) && decide (40 ≤ zK (zz kd t))) = false
  rw [(hd_s h).2.2.2.2, Bool.false_and]
set_option maxHeartbeats 16000000 in
set_option maxHeartbeats 8000000 in
theorem m_tellRelayZ {l : Launch} {G : GG} {h : AH} {nx : Nat} {Post : Option Value → AH → Nat → Prop} {o d n m N t : Nat} {u : Nat → Nat} {h0 : AH} {fs fs0 : List Value} (hX : XC G ∧ TX l G) (hS : BSt u n o d N h0 fs0 h fs t) (hT : tokM h o u n m) (hu : ∀ i, u i < 256) (ht : t < m) (hm : m ≤ 401) (hn : n ≤ 2000) (hE : tkEnd u n m) (hZ : zEnd (kdN u n) N) (hX0 : TXT (kdN u n) t) (hk : kdN u n t = 6) (h5 : zR (zz (kdN u n) t) < 6) (f20 : fs0[20]? = some (.int (nI d))) (hd : d < 4) (hB : ∀ (h1 : AH) (fs1 : List Value), PFl h1 o fs1 (zFt (kdN u n) N) (plN u n N) → FRM o d h0 fs0 h1 fs1 → Post none h1 nx) (hP : ∀ (t2 : Nat) (h1 : AH) (fs1 : List Value), t < t2 → t2 < m → TXT (kdN u n) t2 → BSt u n o d N h0 fs0 h1 fs1 t2 → tokM h1 o u n m → Post none h1 nx) : Runs l G i_X12_tellRelay 0 0 [.ref o] h nx Post := by
  have hkd := kdN_lt hu n
  obtain ⟨⟨wo, wp, M, W⟩, s1, s2, s3, s4, s5⟩ := hS
  obtain ⟨⟨wg, P⟩, F, K0, C0⟩ := id M
  have f20b : ∀ {h1 : AH} {fs1 : List Value}, FRM o d h0 fs0 h1 fs1 → fs1[20]? = some (.int (nI d)) := fun hF => (hF.1 20 (by omega)).trans f20
  have e20 : fs[20]? = some (.int (nI d)) := f20b F
  have T0 : tokM h0 o u n m := hT.ag (fun x x1 x2 => (F.2.1 x (by omega) (Or.inl (by omega))).symm)
  obtain ⟨nmI, nmR, nmL, NM, n1, n2, n3⟩ := names_of hX0 e20 (by omega) s1 s2 s3
  have TW := tw_any (vl := vaN u n) hX0 n1 n2 n3
  obtain ⟨g10, g11, g12, a1, a2, a3, a5, _⟩ := id s2
  have z0 : zS (zz (kdN u n) t) = 0 := hX0.2.2
  have z0t := z0
  have ha := hX0.2.1
  have w0 := zW_all hkd ha
  have d0 : zD (zz (kdN u n) t) = 0 := w0.2.2.2.2.2.2.2.2.1 (by omega)
  have ei : (6 : Int32) * nI d + nI (zR (zz (kdN u n) t)) = nI (6 * d + zR (zz (kdN u n) t)) := by rw [show (6 : Int32) = nI 6 from rfl, nI_mul, nI_add]
  have b0 : zB (zS (zz (kdN u n) t)) (zD (zz (kdN u n) t)) (kdN u n t) = some 3 := by rw [z0, hk]; rfl
  have O0 : zO (zz (kdN u n) t) (kdN u n t) = false := by
    rw [hk]
    exact decide_eq_false (p := 6 ≤ zR (zz (kdN u n) t)) (by omega)
  have k0 : kdN u n t ≠ 0 := by omega
  have hd5 : d < 5 := by omega
  have hk30 : 6 * d + zR (zz (kdN u n) t) < 30 := by omega
  -- behind a fault, ahead of the circuit
  have f115 : ∀ (h1 : AH) (fs1 : List Value) (v : Int64), PFl h1 o fs1 (zFt (kdN u n) N) (plN u n N) → FRM o d h0 fs0 h1 fs1 → h1 (o + 1 + 10) = h (o + 1 + 10) → Go l G 12 s_X12_tellRelay 0 0 Post 115 [(2, .long v), (1, .int (nI (6 * d + zR (zz (kdN u n) t)))), (0, .ref o)] [] h1 nx 0 0 := by
    intro h1 fs1 v x1 x2 x3
    have r10 := x3.trans a1
    have q20 := f20b x2
    refine Go.of hX.2 ck_X12_tellRelay [] 60 ?_
    refine Exists.intro _ (And.intro x1.1.1 (Exists.intro _ (And.intro (x1.1.2.2 10 (by decide)) ?_)))
    refine Exists.intro _ (And.intro x1.1.1 (Exists.intro _ (And.intro q20 ?_)))
    refine Exists.intro _ (Exists.intro _ (And.intro r10 (And.intro (vp_in_nI hd5 (by decide)) ?_)))
    rw [nI_clamp (show d < 2 ^ 31 by omega), a5]
    refine Exists.intro _ (And.intro x1.1.1 (Exists.intro _ (And.intro (x1.1.2.2 10 (by decide)) ?_)))
    refine Exists.intro _ (And.intro x1.1.1 (Exists.intro _ (And.intro q20 ?_)))
    refine Exists.intro _ (Exists.intro _ (And.intro r10 (And.intro (vp_in_nI hd5 (by decide)) ?_)))
    rw [nI_clamp (show d < 2 ^ 31 by omega), a5]
    refine Exists.intro _ (And.intro x1.1.1 (Exists.intro 0 (Exists.intro 0 (And.intro (Nat.le_refl _) (And.intro (Nat.le_refl _) (m_circuitF hX x1 x2 rfl q20 hd (by omega) (fun h2 fs2 y1 y2 y3 y4 => ?_)))))))
    refine Exists.intro _ (And.intro y1.1.1 (Exists.intro 0 (Exists.intro 0 (And.intro (Nat.le_refl _) (And.intro (Nat.le_refl _) (m_mustF hX y1 ?_))))))
    refine Exists.intro _ (And.intro y1.1.1 (Exists.intro _ (And.intro y1.2.2.1 ?_)))
    have fb := y1.2.2.2.2
    refine And.intro (fun cz => absurd cz (show ¬ nI (zFt (kdN u n) N) ≤ 0 from nI_ge (a := 0) fb.1 (by omega))) (fun _ => ?_)
    exact hB h2 fs2 y1 y2
  have f110 : ∀ (h1 : AH) (fs1 : List Value) (v : Int64), PFl h1 o fs1 (zFt (kdN u n) N) (plN u n N) → FRM o d h0 fs0 h1 fs1 → h1 (o + 1 + 10) = h (o + 1 + 10) → Go l G 12 s_X12_tellRelay 0 0 Post 110 [(2, .long v), (1, .int (nI (6 * d + zR (zz (kdN u n) t)))), (0, .ref o)] [] h1 nx 0 0 := by
    intro h1 fs1 v x1 x2 x3
    refine Go.of hX.2 ck_X12_tellRelay [115] 60 ?_
    refine Exists.intro _ (And.intro x1.1.1 (Exists.intro 0 (Exists.intro 0 (And.intro (Nat.le_refl _) (And.intro (Nat.le_refl _) (m_mustF hX x1 ?_))))))
    exact go_loc (lv' := [(2, .long v), (1, .int (nI (6 * d + zR (zz (kdN u n) t)))), (0, .ref o)]) ⟨rfl, rfl, rfl, trivial⟩ (f115 h1 fs1 v x1 x2 x3)
  have f27 : ∀ (h1 : AH) (fs1 : List Value) (v : Int64), PFl h1 o fs1 (zFt (kdN u n) N) (plN u n N) → FRM o d h0 fs0 h1 fs1 → h1 (o + 1 + 10) = h (o + 1 + 10) → Go l G 12 s_X12_tellRelay 0 0 Post 27 [(2, .long v), (1, .int (nI (6 * d + zR (zz (kdN u n) t)))), (0, .ref o)] [] h1 nx 0 0 := by
    intro h1 fs1 v x1 x2 x3
    obtain ⟨q11, r11⟩ := x1.2.1.i 11 (by decide) (by decide) rfl
    have Q1 := x1.row (j := 11) (e := .inl (0, 30, .inl (upd q11 (6 * d + zR (zz (kdN u n) t)) 0))) (rowS_i (by decide) rfl ⟨_, rfl⟩)
    refine Go.of hX.2 ck_X12_tellRelay [110] 60 ?_
    refine Exists.intro _ (And.intro x1.1.1 (Exists.intro _ (And.intro (x1.1.2.2 11 (by decide)) ?_)))
    refine Exists.intro _ (Exists.intro _ (And.intro r11 (And.intro (vp_in_nI hk30 (by decide)) ?_)))
    rw [nI_clamp (show 6 * d + zR (zz (kdN u n) t) < 2 ^ 31 by omega)]
    refine Exists.intro _ (And.intro Q1.1.1 (Exists.intro 0 (Exists.intro 0 (And.intro (Nat.le_refl _) (And.intro (Nat.le_refl _) (m_isF hX Q1 ?_))))))
    refine And.intro (fun _ => ?_) (fun cz => by first | exact absurd cz (by decide) | exact absurd (by decide) cz)
    exact go_loc (lv' := [(2, .long v), (1, .int (nI (6 * d + zR (zz (kdN u n) t)))), (0, .ref o)]) ⟨rfl, rfl, rfl, trivial⟩ (f110 _ fs1 v Q1 (x2.up [11] (pfF.rf fs1) (fun x y1 y2 => uph_ne (y2 11 (by decide))) ⟨⟨by decide, by decide, fun _ => rowZ.u r11 uph_eq (show 6 * d ≤ _ by omega)⟩, True.intro⟩) ((uph_ne (by omega)).trans x3))
  -- ahead of the =
  have fin110 : ∀ (t' wo' wg' : Nat) (wp' sv : Int32) (h1 : AH) (fs1 : List Value) (q11 : Nat → Int32), t < t' → t' < m → (∀ i, i < t' → zok (kdN u n) i) → (zS (zz (kdN u n) t') = 4 ∧ kdN u n t' ≠ 7 ∨ zS (zz (kdN u n) t') = 6) → zT (zz (kdN u n) t') = 6 → zR (zz (kdN u n) t') = zR (zz (kdN u n) t) + 1 → zI (zz (kdN u n) t') = zI (zz (kdN u n) t) → zL (zz (kdN u n) t') = zL (zz (kdN u n) t) → zV (zz (kdN u n) t') = zV (zz (kdN u n) t) → (∀ i, t ≤ i → i < t' → zS (zz (kdN u n) i) < 10 ∧ kdN u n i ≠ 13 ∧ kdN u n i ≠ 11) → PRs h1 o fs1 ((t', 0, 420 * d + (cG (kdN u n) t).2.length, 420 * d + gCn (kdN u n) t), (wN (kdN u n) t, wg', wo', wp')) → WRs (kdN u n) (vaN u n) (plN u n) t' wo' wp' → pfF fs fs1 → (∀ x, x ≠ o → x ≠ o + 1 + 11 → h1 x = h x) → h1 (o + 1 + 11) = some (.inl (0, 30, .inl q11)) → q11 (6 * d + zR (zz (kdN u n) t)) = sv → (∀ x, x ≠ 6 * d + zR (zz (kdN u n) t) → q11 x = g11 x) → ((∃ i1, i1 < t' ∧ zS (zz (kdN u n) i1) = 5 ∧ zR (zz (kdN u n) i1) = zR (zz (kdN u n) t) + 1 ∧ sv = nI (vaN u n i1).toInt.toNat) ∨ ((∀ i, i < t' → zS (zz (kdN u n) i) = 5 → zR (zz (kdN u n) i) ≠ zR (zz (kdN u n) t) + 1) ∧ sv = nI 0)) → zS (zz (kdN u n) (t + 1)) = 3 → zR (zz (kdN u n) (t + 1)) = zR (zz (kdN u n) t) → t + 1 < t' → Go l G 12 s_X12_tellRelay 0 0 Post 110 [(2, .long (vaN u n (t + 1))), (1, .int (nI (6 * d + zR (zz (kdN u n) t)))), (0, .ref o)] [] h1 nx 0 0 := by
    intro t' wo' wg' wp' sv h1 fs1 q11 htt htm hta hst hzT hzR hzI hzL hzV seg P1 W1 pf1 fr1 r11 sv1 sv2 sv3 zn1 zn2 htt1
    have hdt : zD (zz (kdN u n) t') = 0 := (zW_all hkd hta).2.2.2.2.2.2.2.2.1 (by rcases hst with z | z <;> omega)
    have k5 : mkK (kdN u n t') = 5 ↔ kdN u n t' = 13 := ⟨fun z => mkK_inj _ (hkd t') 13 (by decide) z, fun z => by rw [z]; rfl⟩
    have k4 : ∀ j, mkK (kdN u n j) = 4 ↔ kdN u n j = 12 := fun j => (kk9 hkd j).2.2.2.2.1
    have F1 : FRM o d h0 fs0 h1 fs1 := F.up [11] pf1 (fun x y1 y2 => fr1 x y1 (y2 11 (by decide))) ⟨⟨by decide, by decide, fun _ => rowZ.i a2 r11 (fun x hx => sv2 x (by have hx : x < 6 * d := hx; omega))⟩, True.intro⟩
    have rs1 : ∀ j, j < 63 → j ≠ 11 → h1 (o + 1 + j) = h (o + 1 + j) := fun j _ w2 => fr1 _ (by omega) (by omega)
    have T1 : tokM h1 o u n m := hT.ag (fun x x1 x2 => fr1 x (by omega) (by omega))
    have bn : ∀ k, k ≠ 13 → k = kdN u n t' → zB (zS (zz (kdN u n) t')) (zD (zz (kdN u n) t')) k = none := fun k hk e => by
      rcases hst with ⟨z1, z2⟩ | z1
      · rw [z1]; exact zB4_n ⟨by omega, hk⟩
      · rw [z1]; exact if_neg hk
    have bs : zB (zS (zz (kdN u n) t')) (zD (zz (kdN u n) t')) 13 = some 10 := by
      rcases hst with ⟨z1, z2⟩ | z1 <;> rw [z1] <;> rfl
    refine Go.of hX.2 ck_X12_tellRelay [115] 60 ?_
    refine Exists.intro _ (And.intro P1.1.1 (Exists.intro 0 (Exists.intro 0 (And.intro (Nat.le_refl _) (And.intro (Nat.le_refl _) (m_must (k := 5) hX P1 T1 hu htm hm (by decide) (fun f h2 fs2 v0 v1 v2 v3 => ?_) (fun v0 v4 h2 fs2 v1 v2 v3 => ?_)))))))
    · have tie : N = t' ∧ zFt (kdN u n) N = f := by
        rcases v0 with ⟨x1, rfl⟩ | ⟨x1, x2, rfl⟩
        · exact stop_1 hkd hZ hta (bn _ (fun z => x1 (k5.mpr z)) rfl) (fun _ => by rcases hst with z | z <;> omega)
        · exact stop_2 hkd hZ hta (by rw [k5.mp x1]; exact bs) (Or.inl (by omega))
      exact go_loc (lv' := [(2, .long (vaN u n (t + 1))), (1, .int (nI (6 * d + zR (zz (kdN u n) t)))), (0, .ref o)]) ⟨rfl, rfl, rfl, trivial⟩ (f115 h2 fs2 (vaN u n (t + 1)) (by rw [tie.2, tie.1]; exact v1) (F1.ob v2 v3) ((v3 _ (by omega)).trans (rs1 10 (by decide) (by decide))))
    · have k13 := k5.mp v0
      obtain ⟨_, _, c3, c4⟩ := zok_k (s := 10) hZ hkd hta v4 (by rw [k13]; exact bs) (by rw [k13]; rfl)
      have cS : zS (zz (kdN u n) (t' + 1)) = 10 := by rw [c4, zA_S]
      have cT : zT (zz (kdN u n) (t' + 1)) = 6 := by rw [c4, zA_T, if_neg (by rcases hst with z | z <;> omega)]; exact hzT
      have cR : zR (zz (kdN u n) (t' + 1)) = zR (zz (kdN u n) t) + 1 := by rw [c4, zA_R, if_neg (by omega)]; exact hzR
      have cI : zI (zz (kdN u n) (t' + 1)) = zI (zz (kdN u n) t) := by rw [c4, zA_I, if_neg (by omega)]; exact hzI
      have cL : zL (zz (kdN u n) (t' + 1)) = zL (zz (kdN u n) t) := by rw [c4, zA_L, if_neg (by omega)]; exact hzL
      have cV : zV (zz (kdN u n) (t' + 1)) = zV (zz (kdN u n) t) := by rw [c4, zA_V, if_neg (by omega)]; exact hzV
      have cD : zD (zz (kdN u n) (t' + 1)) = 0 := by rw [c4, zA_D (by rcases hst with z | z <;> omega), if_neg (by omega), if_neg (by omega)]; exact hdt
      have seg2 : ∀ i, t ≤ i → i < t' + 1 → zS (zz (kdN u n) i) < 10 := fun i i1 i2 => by
        by_cases e : i = t'
        · rw [e]; rcases hst with z | z <;> omega
        · exact (seg i i1 (by omega)).1
      have F2 := F1.ob v2 v3
      have rs2 : ∀ j, j < 63 → j ≠ 11 → h2 (o + 1 + j) = h (o + 1 + j) := fun j w1 w2 => (v3 _ (by omega)).trans (rs1 j w1 w2)
      have T2 : tokM h2 o u n m := T1.ag (fun x x1 x2 => v3 x (by omega))
      have M2 : MRt (kdN u n) o d h0 fs0 h2 fs2 (t' + 1) wo' wp' := M.jump hkd c3 (by omega) seg2 v1 F2 (fun j hj => rs2 j (by have := jump_k j hj; omega) (by have := jump_k j hj; omega))
      have hc0 : (cG (kdN u n) (t' + 1)).1 = [] := by
        rw [(hd_seg hkd c3 (show t ≤ t' + 1 by omega) seg2).1]
        exact (cG_w hkd ha).2.2.1 (by omega)
      obtain ⟨g23, g24, g25, g26, g28, y23, y24, y25, y26, y28, _⟩ := id s5
      have q20 := f20b F2
      have r10 := (rs2 10 (by decide) (by decide)).trans a1
      have emO : mOw (zz (kdN u n) (t' + 1)) = zR (zz (kdN u n) t) := by
        unfold mOw
        rw [cT, if_pos rfl, cR, Nat.add_sub_cancel]
      have ecN : cN (zz (kdN u n) (t' + 1)) = zR (zz (kdN u n) t) := by
        unfold cN
        rw [cT, if_pos rfl, cR, Nat.add_sub_cancel]
      have t1m : t' + 1 < m := hE.s htm (by omega) v4
      refine go_loc (lv' := [(2, .long (vaN u n (t + 1))), (1, .int (nI (6 * d + zR (zz (kdN u n) t)))), (0, .ref o)]) ⟨rfl, rfl, rfl, trivial⟩ ?_
      refine Go.of hX.2 ck_X12_tellRelay [] 90 ?_
      refine Exists.intro _ (And.intro v1.1.1 (Exists.intro _ (And.intro (v1.1.2.2 10 (by decide)) ?_)))
      refine Exists.intro _ (And.intro v1.1.1 (Exists.intro _ (And.intro q20 ?_)))
      refine Exists.intro _ (Exists.intro _ (And.intro r10 (And.intro (vp_in_nI hd5 (by decide)) ?_)))
      rw [nI_clamp (show d < 2 ^ 31 by omega), a5]
      refine Exists.intro _ (And.intro v1.1.1 (Exists.intro _ (And.intro (v1.1.2.2 10 (by decide)) ?_)))
      refine Exists.intro _ (And.intro v1.1.1 (Exists.intro _ (And.intro q20 ?_)))
      refine Exists.intro _ (Exists.intro _ (And.intro r10 (And.intro (vp_in_nI hd5 (by decide)) ?_)))
      rw [nI_clamp (show d < 2 ^ 31 by omega), a5]
      refine Exists.intro _ (And.intro v1.1.1 (Exists.intro 0 (Exists.intro 0 (And.intro (Nat.le_refl _) (And.intro (Nat.le_refl _) (m_circuit hX M2 rfl T2 hu hn t1m hm hE hZ c3 cS cD hc0 q20 hd (by omega) (Or.inr ⟨by rw [cT]; decide, by rw [emO], by rw [emO]; omega⟩) ((rs2 23 (by decide) (by decide)).trans y23) ((rs2 24 (by decide) (by decide)).trans y24) ((rs2 25 (by decide) (by decide)).trans y25) ((rs2 26 (by decide) (by decide)).trans y26) ((rs2 28 (by decide) (by decide)).trans y28) (fun h3 fs3 z1 z2 => ?_) (fun j h3 fs3 gs1 j1 j2 j3 j4 j5 j6 j7 j8 j9 j10 j11 j12 j13 j14 j15 j16 j17 j18 => ?_)))))))
      · refine Exists.intro _ (And.intro z1.1.1 (Exists.intro 0 (Exists.intro 0 (And.intro (Nat.le_refl _) (And.intro (Nat.le_refl _) (m_mustF hX z1 ?_))))))
        refine Exists.intro _ (And.intro z1.1.1 (Exists.intro _ (And.intro z1.2.2.1 ?_)))
        have fb := z1.2.2.2.2
        refine And.intro (fun cz => absurd cz (show ¬ nI (zFt (kdN u n) N) ≤ 0 from nI_ge (a := 0) fb.1 (by omega))) (fun _ => ?_)
        exact hB h3 fs3 z1 z2
      · have P3 : PRs h3 o fs3 ((j, 0, 420 * d + ((cG (kdN u n) j).2 ++ (gsA 4 (cG (kdN u n) j).1).2).length, 420 * d + gCn (kdN u n) j), (wN (kdN u n) j, 0, wo', wp')) := j9.1
        have F3 : FRM o d h0 fs0 h3 fs3 := j9.2.1
        have T3 : tokM h3 o u n m := T0.ag (fun x x1 x2 => F3.2.1 x (by omega) (Or.inl (by omega)))
        refine Exists.intro _ (And.intro P3.1.1 (Exists.intro 0 (Exists.intro 0 (And.intro (Nat.le_refl _) (And.intro (Nat.le_refl _) (m_must (k := 4) hX P3 T3 hu j2 hm (by decide) (fun f h4 fs4 z0 z1 z2 z3 => ?_) (fun z0 z4 h4 fs4 z1 z2 z3 => ?_)))))))
        · have tie := semi_tie (f := f) hkd hZ j3 j5 j6 j7 j8 (z0.imp (fun z => ⟨fun w => z.1 ((k4 j).mpr w), z.2⟩) (fun z => ⟨(k4 j).mp z.1, z.2⟩))
          refine Exists.intro _ (And.intro z1.1.1 (Exists.intro _ (And.intro z1.2.2.1 ?_)))
          have fb := z1.2.2.2.2
          refine And.intro (fun cz => absurd cz (show ¬ nI f ≤ 0 from nI_ge (a := 0) fb.1 (by omega))) (fun _ => ?_)
          exact hB h4 fs4 (by rw [tie.2, tie.1]; exact z1) (F3.ob z2 z3)
        · have k12 := (k4 j).mp z0
          have P4 : PRs h4 o fs4 ((j + 1, 0, 420 * d + ((cG (kdN u n) j).2 ++ (gsA 4 (cG (kdN u n) j).1).2).length, 420 * d + gCn (kdN u n) j), (wN (kdN u n) j, 0, wo', wp')) := z1
          obtain ⟨e1, e2, e3, e4, e5, e6, e7⟩ := circ_end hkd hZ j3 (Nat.le_of_lt j1) j4 j5 j6 k12 z4 j9 P4 z2 z3
          have F4 := F3.ob z2 z3
          have q20b := f20b F4
          have rs4 : ∀ k, 7 ≤ k → k < 18 → k ≠ 11 → h4 (o + 1 + k) = h (o + 1 + k) := fun k w1 w2 w3 => (z3 _ (by omega)).trans ((j11 k (Or.inl ⟨w1, w2⟩)).trans (rs2 k (by omega) w3))
          have r12 := (rs4 12 (by decide) (by decide) (by decide)).trans a3
          have r10b := (rs4 10 (by decide) (by decide) (by decide)).trans a1
          have r11b : h4 (o + 1 + 11) = some (.inl (0, 30, .inl q11)) := (z3 _ (by omega)).trans ((j11 11 (Or.inl ⟨by decide, by decide⟩)).trans ((v3 _ (by omega)).trans r11))
          refine Exists.intro _ (And.intro z1.1.1 (Exists.intro _ (And.intro z1.2.2.1 ?_)))
          refine And.intro (fun _ => ?_) (fun cz => by first | exact absurd cz (by decide) | exact absurd (by decide) cz)
          refine Exists.intro _ (And.intro z1.1.1 (Exists.intro _ (And.intro (z1.1.2.2 12 (by decide)) ?_)))
          refine Exists.intro _ (Exists.intro _ (And.intro r12 (And.intro (vp_in_nI hk30 (by decide)) ?_)))
          rw [nI_clamp (show 6 * d + zR (zz (kdN u n) t) < 2 ^ 31 by omega)]
          have Q1 := z1.row (j := 12) (e := .inl (1, 30, .inr (.inl (vp_updL g12 (6 * d + zR (zz (kdN u n) t)) (vaN u n (t + 1)))))) ⟨_, rfl⟩
          refine Exists.intro _ (And.intro Q1.1.1 (Exists.intro _ (And.intro (z1.1.2.2 10 (by decide)) ?_)))
          refine Exists.intro _ (And.intro Q1.1.1 (Exists.intro _ (And.intro q20b ?_)))
          refine Exists.intro _ (Exists.intro _ (And.intro ((uph_ne (by omega)).trans r10b) (And.intro (vp_in_nI hd5 (by decide)) ?_)))
          rw [nI_clamp (show d < 2 ^ 31 by omega), a5]
          refine Exists.intro _ (Exists.intro _ (And.intro ((uph_ne (by omega)).trans r10b) (And.intro (vp_in_nI hd5 (by decide)) ?_)))
          rw [nI_clamp (show d < 2 ^ 31 by omega), show nI (zR (zz (kdN u n) t)) + 1 = nI (zR (zz (kdN u n) t) + 1) from (nI_succ _).symm]
          have e3b := e3
          obtain ⟨⟨wg4, P5⟩, _⟩ := e3b
          have Q5 := (P5.row (j := 12) (e := .inl (1, 30, .inr (.inl (vp_updL g12 (6 * d + zR (zz (kdN u n) t)) (vaN u n (t + 1)))))) ⟨_, rfl⟩).row (j := 10) (e := .inl (0, 5, .inl (upd g10 d (nI (zR (zz (kdN u n) t) + 1))))) (rowS_i (by decide) rfl ⟨_, rfl⟩)
          generalize hh : uph (uph h4 (o + 1 + 12) (.inl (1, 30, .inr (.inl (vp_updL g12 (6 * d + zR (zz (kdN u n) t)) (vaN u n (t + 1))))))) (o + 1 + 10) (.inl (0, 5, .inl (upd g10 d (nI (zR (zz (kdN u n) t) + 1))))) = h5 at Q5
          have H10 : h5 (o + 1 + 10) = some (.inl (0, 5, .inl (upd g10 d (nI (zR (zz (kdN u n) t) + 1))))) := by rw [← hh]; exact uph_eq
          have H12 : h5 (o + 1 + 12) = some (.inl (1, 30, .inr (.inl (vp_updL g12 (6 * d + zR (zz (kdN u n) t)) (vaN u n (t + 1)))))) := by rw [← hh, uph_ne (by omega)]; exact uph_eq
          have H5f : ∀ x, x ≠ o + 1 + 10 → x ≠ o + 1 + 12 → h5 x = h4 x := fun x x1 x2 => by rw [← hh, uph_ne x1, uph_ne x2]
          have F5 : FRM o d h0 fs0 h5 fs4 := F4.up [10, 12] (pfF.rf fs4) (fun x y1 y2 => H5f x (y2 10 (by decide)) (y2 12 (by decide))) ⟨⟨by decide, by decide, fun _ => rowZ.u r10b H10 (show 1 * d ≤ d by omega)⟩, ⟨by decide, by decide, fun _ => rowZ.l r12 H12 (fun x hx => pk_uLn (by have hx : x < 6 * d := hx; omega))⟩, True.intro⟩
          have M5 : MRt (kdN u n) o d h0 fs0 h5 fs4 (j + 1) wo' wp' := e3.jump hkd e2.2.1 (Nat.le_refl _) (fun i i1 i2 => by omega) Q5 F5 (fun k hk => H5f _ (by have := jump_k k hk; omega) (by have := jump_k k hk; omega))
          have rs5 : ∀ k, 7 ≤ k → k < 18 → k ≠ 11 → k ≠ 10 → k ≠ 12 → h5 (o + 1 + k) = h (o + 1 + k) := fun k w1 w2 w3 w4 w5 => (H5f _ (by omega) (by omega)).trans (rs4 k w1 w2 w3)
          have eXt : eXz (kdN u n) (vaN u n) t' = 0 := eX_0 (by rcases hst with z | z <;> omega) (Or.inl (by omega))
          have W5 : WRs (kdN u n) (vaN u n) (plN u n) (j + 1) wo' wp' := (W1.s0 eXt).seg (by omega) (eX_c j4 (by omega))
          have lt5 : ∀ i, t' ≤ i → i < j + 1 → zS (zz (kdN u n) i) ≠ 5 := fun i i1 i2 => by
            by_cases c1 : i = t'
            · rw [c1]; rcases hst with z | z <;> omega
            · by_cases c2 : i = j
              · rw [c2]; omega
              · have := (j4 i (by omega) (by omega)).1
                omega
          have hCT : CTb h5 o d (kdN u n) (vaN u n) N (j + 1) := by
            refine s5.circ e2 e1 (a1 := t') (by omega) (Or.inl k13) (fun i i1 i2 => ⟨(seg i i1 i2).2.1, (seg i i1 i2).2.2, (seg i i1 i2).1⟩) (by rcases hst with z | z <;> omega) (by omega) j4 k12 (by omega) y23 y24 y25 y26 y28 ?_ ?_ ?_ ?_ ((H5f _ (by omega) (by omega)).trans ((z3 _ (by omega)).trans j16)) j17 j18
            · rw [ecN]; exact (H5f _ (by omega) (by omega)).trans ((z3 _ (by omega)).trans j12)
            · rw [ecN]; exact (H5f _ (by omega) (by omega)).trans ((z3 _ (by omega)).trans j13)
            · rw [ecN]; exact (H5f _ (by omega) (by omega)).trans ((z3 _ (by omega)).trans j14)
            · rw [ecN]; exact (H5f _ (by omega) (by omega)).trans ((z3 _ (by omega)).trans j15)
          refine hP (j + 1) h5 fs4 (by omega) (hE.s j2 (by omega) z4) e2 ⟨⟨wo', wp', M5, W5⟩, ?_, ?_, ?_, ?_, hCT⟩ (T0.ag (fun x x1 x2 => F5.2.1 x (by omega) (Or.inl (by omega))))
          · exact s1.stay e2 (by omega) (fun k w1 w2 => rs5 k (by omega) (by omega) (by omega) (by omega) (by omega))
          · refine s2.more (i0 := t + 1) (sv := sv) e2 z0t (by omega) (by omega) (by omega) zn1 zn2 ?_ a1 a3 a2 H10 ((H5f _ (by omega) (by omega)).trans r11b) sv1 sv2 H12
            rcases sv3 with ⟨i1, x1, x2, x3, x4⟩ | ⟨x1, x2⟩
            · exact Or.inl ⟨i1, by omega, x2, x3, x4⟩
            · refine Or.inr ⟨fun i i1 i2 => ?_, x2⟩
              rcases Nat.lt_or_ge i t' with z | z
              · exact x1 i z i2
              · exact absurd i2 (lt5 i z i1)
          · exact s3.stay e2 (by omega) (fun k w1 w2 => rs5 k (by omega) (by omega) (by omega) (by omega) (by omega))
          · exact s4.stay e2 z0t (by omega) (fun k w1 w2 => rs5 k (by omega) (by omega) (by omega) (by omega) (by omega))
  -- the head's tokens
  have st1 : t < 400 → (∀ i, i < t + 1 → zok (kdN u n) i) ∧ zz (kdN u n) (t + 1) = zA (zz (kdN u n) t) (kdN u n t) 3 := fun h4 => by
    obtain ⟨_, _, x, y⟩ := zok_k hZ hkd ha h4 b0 O0
    exact ⟨x, y⟩
  have z1 : t < 400 → zS (zz (kdN u n) (t + 1)) = 3 ∧ zT (zz (kdN u n) (t + 1)) = 6 ∧ zR (zz (kdN u n) (t + 1)) = zR (zz (kdN u n) t) ∧ zI (zz (kdN u n) (t + 1)) = zI (zz (kdN u n) t) ∧ zL (zz (kdN u n) (t + 1)) = zL (zz (kdN u n) t) ∧ zV (zz (kdN u n) (t + 1)) = zV (zz (kdN u n) t) := fun h4 => by
    rw [(st1 h4).2]
    exact ⟨zA_S _ _ _, by rw [zA_T, if_pos z0, hk], by rw [zA_R, if_neg (by omega)], by rw [zA_I, if_neg (by omega)], by rw [zA_L, if_neg (by omega)], by rw [zA_V, if_neg (by omega)]⟩
  have st2 : t + 1 < 400 → kdN u n (t + 1) = 2 → (∀ i, i < t + 2 → zok (kdN u n) i) ∧ zz (kdN u n) (t + 2) = zA (zz (kdN u n) (t + 1)) (kdN u n (t + 1)) 4 := fun h4 h2 => by
    obtain ⟨_, _, x, y⟩ := zok_k (s := 4) hZ hkd (st1 (by omega)).1 h4 (by rw [(z1 (by omega)).1, h2]; rfl) (zC_h (by rw [(z1 (by omega)).1]; decide) h2)
    exact ⟨x, y⟩
  have z2 : t + 1 < 400 → kdN u n (t + 1) = 2 → zS (zz (kdN u n) (t + 2)) = 4 ∧ zT (zz (kdN u n) (t + 2)) = 6 ∧ zR (zz (kdN u n) (t + 2)) = zR (zz (kdN u n) t) + 1 ∧ zI (zz (kdN u n) (t + 2)) = zI (zz (kdN u n) t) ∧ zL (zz (kdN u n) (t + 2)) = zL (zz (kdN u n) t) ∧ zV (zz (kdN u n) (t + 2)) = zV (zz (kdN u n) t) := fun h4 h2 => by
    obtain ⟨y1, y2, y3, y4, y5, y6⟩ := z1 (by omega)
    rw [(st2 h4 h2).2]
    exact ⟨zA_S _ _ _, by rw [zA_T, if_neg (by omega)]; exact y2, by rw [zA_R, if_pos ⟨y1, h2⟩, y3], by rw [zA_I, if_neg (by omega)]; exact y4, by rw [zA_L, if_neg (by omega)]; exact y5, by rw [zA_V, if_neg (by omega)]; exact y6⟩
  have no5 : t + 1 < 400 → kdN u n (t + 1) = 2 → ∀ i, i < t + 2 → zS (zz (kdN u n) i) = 5 → zR (zz (kdN u n) i) ≠ zR (zz (kdN u n) t) + 1 := fun h4 h2 i i1 i2 => by
    obtain ⟨y1, _⟩ := z1 (by omega)
    rcases Nat.lt_or_ge i t with z | z
    · have := (z_mono hkd ha (show i ≤ t by omega) (Nat.le_refl t)).2.1
      omega
    · have : i = t ∨ i = t + 1 := by omega
      rcases this with e | e <;> rw [e] at i2 <;> omega
  have at17 : ∀ v, v = nI (6 * d + zR (zz (kdN u n) t)) → Go l G 12 s_X12_tellRelay 0 0 Post 18 [(1, .int v), (0, .ref o)] [] h nx 0 0 := by
    intro v hv
    subst hv
    -- a name was told
    have good : ∀ (h2 : AH) (fs2 : List Value) (wo' : Nat) (wp' : Int32), kdN u n (t + 1) = 2 → t + 1 < 400 → (twN nmI nmR nmL (zI (zz (kdN u n) t)) (zR (zz (kdN u n) t)) (zL (zz (kdN u n) t)) (vaN u n (t + 1)) ∧ (wo', wp') = wUp wo wp 3 (plN u n (t + 1)) ∨ ¬ twN nmI nmR nmL (zI (zz (kdN u n) t)) (zR (zz (kdN u n) t)) (zL (zz (kdN u n) t)) (vaN u n (t + 1)) ∧ (wo', wp') = (wo, wp)) → PRs h2 o fs2 ((t + 2, 0, 420 * d + (cG (kdN u n) t).2.length, 420 * d + gCn (kdN u n) t), (wN (kdN u n) t, wg, wo', wp')) → pfF fs fs2 → (∀ x, x ≠ o → h2 x = h x) → Go l G 12 s_X12_tellRelay 0 0 Post 27 [(2, .long (vaN u n (t + 1))), (1, .int (nI (6 * d + zR (zz (kdN u n) t)))), (0, .ref o)] [] h2 nx 0 0 := by
      intro h2 fs2 wo' wp' k2 h4 hW P2 pf2 fr2
      obtain ⟨y1, y2, y3, y4, y5, y6⟩ := z2 h4 k2
      obtain ⟨v1, v2, v3, _⟩ := z1 (by omega)
      have ha2 := (st2 h4 k2).1
      have t2m : t + 2 < m := hE.s (hE.s ht k0 (by omega)) (by omega) h4
      have zn1 : zN (zS (zz (kdN u n) (t + 1))) = true := by rw [v1]; rfl
      have eX0 : eXz (kdN u n) (vaN u n) t = 0 := eX_0 (by omega) (Or.inl (by omega))
      have eX1 := eX_n (vl := vaN u n) zn1 k2
      rw [toL_0 (show zN (zS (zz (kdN u n) t)) = false from by rw [z0]; rfl)] at eX1
      have W2 : WRs (kdN u n) (vaN u n) (plN u n) (t + 2) wo' wp' := by
        rcases hW with ⟨y1, y2⟩ | ⟨y1, y2⟩
        · rw [if_pos ((TW _).mp y1)] at eX1
          have w := (W.s0 eX0).s1 eX1 (by decide)
          rw [← y2] at w
          exact w
        · rw [if_neg (fun z => y1 ((TW _).mpr z))] at eX1
          have w := (W.s0 eX0).s0 eX1
          cases y2
          exact w
      have r11 := (fr2 (o + 1 + 11) (by omega)).trans a2
      have Q1 := P2.row (j := 11) (e := .inl (0, 30, .inl (upd g11 (6 * d + zR (zz (kdN u n) t)) 0))) (rowS_i (by decide) rfl ⟨_, rfl⟩)
      have T2 : tokM (uph h2 (o + 1 + 11) (.inl (0, 30, .inl (upd g11 (6 * d + zR (zz (kdN u n) t)) 0)))) o u n m := hT.ag (fun x x1 x2 => (uph_ne (by omega)).trans (fr2 x (by omega)))
      have k7 : mkK (kdN u n (t + 2)) = 23 ↔ kdN u n (t + 2) = 7 := ⟨fun z => mkK_inj _ (hkd _) 7 (by decide) z, fun z => by rw [z]; rfl⟩
      have k3 : ∀ j, mkK (kdN u n j) = 2 ↔ kdN u n j = 3 := fun j => ⟨fun z => mkK_inj _ (hkd _) 3 (by decide) z, fun z => by rw [z]; rfl⟩
      have seg2 : ∀ i, t ≤ i → i < t + 2 → zS (zz (kdN u n) i) < 10 ∧ kdN u n i ≠ 13 ∧ kdN u n i ≠ 11 := fun i i1 i2 => by
        have : i = t ∨ i = t + 1 := by omega
        rcases this with e | e <;> rw [e] <;> omega
      have hF0 : ∀ {hh : AH}, (∀ x, x ≠ o → x ≠ o + 1 + 11 → hh x = h x) → (∃ gg : Nat → Int32, hh (o + 1 + 11) = some (.inl (0, 30, .inl gg)) ∧ ∀ x, x ≠ 6 * d + zR (zz (kdN u n) t) → gg x = g11 x) → ∀ {ff : List Value}, pfF fs ff → FRM o d h0 fs0 hh ff := fun h1 h2 ff h3 => F.up [11] h3 (fun x y1 y2 => h1 x y1 (y2 11 (by decide))) ⟨⟨by decide, by decide, fun _ => by
        obtain ⟨gg, e1, e2⟩ := h2
        exact rowZ.i a2 e1 (fun x hx => e2 x (by have hx : x < 6 * d := hx; omega))⟩, True.intro⟩
      refine Go.of hX.2 ck_X12_tellRelay [78, 110] 60 ?_
      refine Exists.intro _ (And.intro P2.1.1 (Exists.intro _ (And.intro (P2.1.2.2 11 (by decide)) ?_)))
      refine Exists.intro _ (Exists.intro _ (And.intro r11 (And.intro (vp_in_nI hk30 (by decide)) ?_)))
      rw [nI_clamp (show 6 * d + zR (zz (kdN u n) t) < 2 ^ 31 by omega)]
      refine Exists.intro _ (And.intro Q1.1.1 (Exists.intro 0 (Exists.intro 0 (And.intro (Nat.le_refl _) (And.intro (Nat.le_refl _) (m_is (k := 23) hX Q1 T2 hu t2m hm (by decide) ?_))))))
      rw [show decide (mkK (kdN u n ((t + 2, 0, 420 * d + (cG (kdN u n) t).2.length, 420 * d + gCn (kdN u n) t), (wN (kdN u n) t, wg, wo', wp')).1.1) = 23) = decide (kdN u n (t + 2) = 7) from decide_eq_decide.mpr k7]
      by_cases c7 : kdN u n (t + 2) = 7
      · rw [decide_eq_true c7]
        refine And.intro (fun cz => by first | exact absurd cz (by decide) | exact absurd (by decide) cz) (fun _ => ?_)
        have b2 : zB (zS (zz (kdN u n) (t + 2))) (zD (zz (kdN u n) (t + 2))) (kdN u n (t + 2)) = some 5 := by rw [y1, c7]; rfl
        -- behind the number
        have at78 : ∀ (h3 : AH) (fs3 : List Value) (wo3 : Nat) (wp3 : Int32), t + 2 < 400 → WRs (kdN u n) (vaN u n) (plN u n) (t + 4) wo3 wp3 ∨ kdN u n (t + 3) ≠ 3 → PRs h3 o fs3 ((t + 3, 0, 420 * d + (cG (kdN u n) t).2.length, 420 * d + gCn (kdN u n) t), (wN (kdN u n) t, wg, wo3, wp3)) → pfF fs fs3 → (∀ x, x ≠ o → x ≠ o + 1 + 11 → h3 x = h x) → h3 (o + 1 + 11) = some (.inl (0, 30, .inl (upd g11 (6 * d + zR (zz (kdN u n) t)) 0))) → Go l G 12 s_X12_tellRelay 0 0 Post 78 [(2, .long (vaN u n (t + 1))), (1, .int (nI (6 * d + zR (zz (kdN u n) t)))), (0, .ref o)] [] h3 nx 0 0 := by
          intro h3 fs3 wo3 wp3 l4 W3 P3 pf3 fr3 r11c
          obtain ⟨_, _, c3, c4⟩ := zok_k hZ hkd ha2 l4 b2 (by rw [c7]; rfl)
          have c4 : zz (kdN u n) (t + 3) = zA (zz (kdN u n) (t + 2)) (kdN u n (t + 2)) 5 := c4
          have c3 : ∀ i, i < t + 3 → zok (kdN u n) i := c3
          have x1 : zS (zz (kdN u n) (t + 3)) = 5 := by rw [c4, zA_S]
          have x2 : zT (zz (kdN u n) (t + 3)) = 6 := by rw [c4, zA_T, if_neg (by omega)]; exact y2
          have x3 : zR (zz (kdN u n) (t + 3)) = zR (zz (kdN u n) t) + 1 := by rw [c4, zA_R, if_neg (by omega)]; exact y3
          have x4 : zI (zz (kdN u n) (t + 3)) = zI (zz (kdN u n) t) := by rw [c4, zA_I, if_neg (by omega)]; exact y4
          have x5 : zL (zz (kdN u n) (t + 3)) = zL (zz (kdN u n) t) := by rw [c4, zA_L, if_neg (by omega)]; exact y5
          have x6 : zV (zz (kdN u n) (t + 3)) = zV (zz (kdN u n) t) := by rw [c4, zA_V, if_neg (by omega)]; exact y6
          have t3m : t + 3 < m := hE.s t2m (by omega) l4
          have T3 : tokM h3 o u n m := hT.ag (fun x x1 x2 => fr3 x (by omega) (by omega))
          have c11 : fs3[11]? = some (.int (nI (t + 3))) := P3.2.2.2.1
          have end104 : ∀ sv : Int32, (kdN u n (t + 3) = 3 → sv = nI (vaN u n (t + 3)).toInt.toNat) → Go l G 12 s_X12_tellRelay 0 0 Post 104 [(2, .long (vaN u n (t + 1))), (1, .int (nI (6 * d + zR (zz (kdN u n) t)))), (0, .ref o)] [.int sv, .int (nI (6 * d + zR (zz (kdN u n) t))), .ref (o + 1 + 11)] h3 nx 0 0 := by
            intro sv hsv
            have Q3 := P3.row (j := 11) (e := .inl (0, 30, .inl (upd (upd g11 (6 * d + zR (zz (kdN u n) t)) 0) (6 * d + zR (zz (kdN u n) t)) sv))) (rowS_i (by decide) rfl ⟨_, rfl⟩)
            have T4 : tokM (uph h3 (o + 1 + 11) (.inl (0, 30, .inl (upd (upd g11 (6 * d + zR (zz (kdN u n) t)) 0) (6 * d + zR (zz (kdN u n) t)) sv)))) o u n m := T3.ag (fun x x1 x2 => uph_ne (by omega))
            have fr4 : ∀ x, x ≠ o → x ≠ o + 1 + 11 → uph h3 (o + 1 + 11) (.inl (0, 30, .inl (upd (upd g11 (6 * d + zR (zz (kdN u n) t)) 0) (6 * d + zR (zz (kdN u n) t)) sv))) x = h x := fun x w1 w2 => (uph_ne w2).trans (fr3 x w1 w2)
            have gg : ∀ x, x ≠ 6 * d + zR (zz (kdN u n) t) → upd (upd g11 (6 * d + zR (zz (kdN u n) t)) 0) (6 * d + zR (zz (kdN u n) t)) sv x = g11 x := fun x hx => (pk_un hx).trans (pk_un hx)
            have F4 := hF0 fr4 ⟨_, uph_eq, gg⟩ pf3
            refine Go.of hX.2 ck_X12_tellRelay [110] 40 ?_
            refine Exists.intro _ (Exists.intro _ (And.intro r11c (And.intro (vp_in_nI hk30 (by decide)) ?_)))
            rw [nI_clamp (show 6 * d + zR (zz (kdN u n) t) < 2 ^ 31 by omega)]
            refine Exists.intro _ (And.intro Q3.1.1 (Exists.intro 0 (Exists.intro 0 (And.intro (Nat.le_refl _) (And.intro (Nat.le_refl _) (m_must (k := 2) hX Q3 T4 hu t3m hm (by decide) (fun f h4 fs4 q0 q1 q2 q3 => ?_) (fun q0 q4 h4 fs4 q1 q2 q3 => ?_)))))))
            · have tie : N = t + 3 ∧ zFt (kdN u n) N = f := mst_tie hkd hZ c3 (K := 3) (s2 := 6) (fun k hk => by rw [x1]; exact if_neg hk) (by rw [x1]; rfl) (by omega) (q0.imp (fun z => ⟨fun w => z.1 ((k3 _).mpr w), z.2⟩) (fun z => ⟨(k3 _).mp z.1, z.2⟩))
              exact go_loc (lv' := [(2, .long (vaN u n (t + 1))), (1, .int (nI (6 * d + zR (zz (kdN u n) t)))), (0, .ref o)]) ⟨rfl, rfl, rfl, trivial⟩ (f110 h4 fs4 (vaN u n (t + 1)) (by rw [tie.2, tie.1]; exact q1) (F4.ob q2 q3) ((q3 _ (by omega)).trans (fr4 _ (by omega) (by omega))))
            · have kk3 := (k3 _).mp q0
              have W4 := W3.resolve_right (fun z => z kk3)
              obtain ⟨_, _, u3, u4⟩ := zok_k (s := 6) hZ hkd c3 q4 (by rw [x1, kk3]; rfl) (by rw [kk3]; rfl)
              have u4 : zz (kdN u n) (t + 4) = zA (zz (kdN u n) (t + 3)) (kdN u n (t + 3)) 6 := u4
              have w1 : zS (zz (kdN u n) (t + 4)) = 6 := by rw [u4, zA_S]
              have w2 : zT (zz (kdN u n) (t + 4)) = 6 := by rw [u4, zA_T, if_neg (by omega)]; exact x2
              have w3 : zR (zz (kdN u n) (t + 4)) = zR (zz (kdN u n) t) + 1 := by rw [u4, zA_R, if_neg (by omega)]; exact x3
              have w4 : zI (zz (kdN u n) (t + 4)) = zI (zz (kdN u n) t) := by rw [u4, zA_I, if_neg (by omega)]; exact x4
              have w5 : zL (zz (kdN u n) (t + 4)) = zL (zz (kdN u n) t) := by rw [u4, zA_L, if_neg (by omega)]; exact x5
              have w6 : zV (zz (kdN u n) (t + 4)) = zV (zz (kdN u n) t) := by rw [u4, zA_V, if_neg (by omega)]; exact x6
              have seg4 : ∀ i, t ≤ i → i < t + 4 → zS (zz (kdN u n) i) < 10 ∧ kdN u n i ≠ 13 ∧ kdN u n i ≠ 11 := fun i i1 i2 => by
                have : i < t + 2 ∨ i = t + 2 ∨ i = t + 3 := by omega
                rcases this with e | e | e
                · exact seg2 i i1 e
                · rw [e]; omega
                · rw [e]; omega
              exact go_loc (lv' := [(2, .long (vaN u n (t + 1))), (1, .int (nI (6 * d + zR (zz (kdN u n) t)))), (0, .ref o)]) ⟨rfl, rfl, rfl, trivial⟩ (fin110 (t + 4) wo3 wg wp3 sv h4 fs4 _ (by omega) (hE.s t3m (by omega) q4) u3 (Or.inr w1) w2 w3 w4 w5 w6 seg4 q1 W4 (pf3.tr q2) (fun x e1 e2 => (q3 x e1).trans (fr4 x e1 e2)) ((q3 _ (by omega)).trans uph_eq) pk_us gg (Or.inl ⟨t + 3, by omega, x1, x3, hsv kk3⟩) v1 v3 (by omega))
          refine Go.of hX.2 ck_X12_tellRelay [104] 40 ?_
          refine Exists.intro _ (And.intro P3.1.1 (Exists.intro _ (And.intro (P3.1.2.2 11 (by decide)) ?_)))
          refine Exists.intro _ (And.intro P3.1.1 (Exists.intro 0 (Exists.intro 0 (And.intro (Nat.le_refl _) (And.intro (Nat.le_refl _) (m_is (k := 2) hX P3 T3 hu t3m hm (by decide) ?_))))))
          rw [show decide (mkK (kdN u n ((t + 3, 0, 420 * d + (cG (kdN u n) t).2.length, 420 * d + gCn (kdN u n) t), (wN (kdN u n) t, wg, wo3, wp3)).1.1) = 2) = decide (kdN u n (t + 3) = 3) from decide_eq_decide.mpr (k3 _)]
          by_cases e3 : kdN u n (t + 3) = 3
          · rw [decide_eq_true e3]
            refine And.intro (fun cz => by first | exact absurd cz (by decide) | exact absurd (by decide) cz) (fun _ => ?_)
            obtain ⟨o2, o3, o4, o5, b2, b3, b4, b5, p⟩ := id T3
            obtain ⟨q, q1, q2, q3⟩ := (p _ t3m).2.2.1 e3
            refine Exists.intro _ (And.intro P3.1.1 (Exists.intro _ (And.intro (P3.1.2.2 4 (by decide)) ?_)))
            refine Exists.intro _ (And.intro P3.1.1 (Exists.intro _ (And.intro c11 ?_)))
            refine Exists.intro _ (Exists.intro _ (And.intro b4 (And.intro (vp_in_nI (show t + 3 < 403 by omega) (by decide)) ?_)))
            rw [nI_clamp (show t + 3 < 2 ^ 31 by omega), q3]
            exact go_loc (lv' := [(2, .long (vaN u n (t + 1))), (1, .int (nI (6 * d + zR (zz (kdN u n) t)))), (0, .ref o)]) ⟨rfl, rfl, rfl, trivial⟩ (end104 (nI q) (fun _ => by rw [q2, lN_toInt (by omega)]; rfl))
          · rw [decide_eq_false e3]
            refine And.intro (fun _ => ?_) (fun cz => by first | exact absurd cz (by decide) | exact absurd (by decide) cz)
            exact go_loc (lv' := [(2, .long (vaN u n (t + 1))), (1, .int (nI (6 * d + zR (zz (kdN u n) t)))), (0, .ref o)]) ⟨rfl, rfl, rfl, trivial⟩ (end104 (nI 0) (fun z => absurd z e3))
        have fr2b : ∀ {h3 : AH}, (∀ x, x ≠ o → h3 x = uph h2 (o + 1 + 11) (.inl (0, 30, .inl (upd g11 (6 * d + zR (zz (kdN u n) t)) 0))) x) → (∀ x, x ≠ o → x ≠ o + 1 + 11 → h3 x = h x) ∧ h3 (o + 1 + 11) = some (.inl (0, 30, .inl (upd g11 (6 * d + zR (zz (kdN u n) t)) 0))) := fun q3 => ⟨fun x e1 e2 => (q3 x e1).trans ((uph_ne e2).trans (fr2 x e1)), (q3 _ (by omega)).trans uph_eq⟩
        refine Exists.intro _ (And.intro Q1.1.1 (Exists.intro 0 (Exists.intro 0 (And.intro (Nat.le_refl _) (And.intro (Nat.le_refl _) (m_goesOn hX Q1 T2 t2m hm (fun e h3 fs3 q1 q2 q3 => ?_) (fun e h3 fs3 q1 q2 q3 => ?_)))))))
        · obtain ⟨v4, v5⟩ := stop_2 hkd hZ ha2 b2 (Or.inl (by omega))
          obtain ⟨fr3, r11c⟩ := fr2b q3
          have q1b : PFl h3 o fs3 (zFt (kdN u n) N) (plN u n N) := by rw [v5, v4]; exact q1
          have Q3 := q1b.row (j := 11) (e := .inl (0, 30, .inl (upd (upd g11 (6 * d + zR (zz (kdN u n) t)) 0) (6 * d + zR (zz (kdN u n) t)) 0))) (rowS_i (by decide) rfl ⟨_, rfl⟩)
          refine Exists.intro _ (And.intro q1b.1.1 (Exists.intro 0 (Exists.intro 0 (And.intro (Nat.le_refl _) (And.intro (Nat.le_refl _) (m_isF hX q1b ?_))))))
          refine And.intro (fun _ => ?_) (fun cz => by first | exact absurd cz (by decide) | exact absurd (by decide) cz)
          refine go_loc (lv' := [(2, .long (vaN u n (t + 1))), (1, .int (nI (6 * d + zR (zz (kdN u n) t)))), (0, .ref o)]) ⟨rfl, rfl, rfl, trivial⟩ ?_
          refine Go.of hX.2 ck_X12_tellRelay [110] 40 ?_
          refine Exists.intro _ (And.intro q1b.1.1 (Exists.intro _ (And.intro (q1b.1.2.2 11 (by decide)) ?_)))
          refine Exists.intro _ (And.intro q1b.1.1 (Exists.intro 0 (Exists.intro 0 (And.intro (Nat.le_refl _) (And.intro (Nat.le_refl _) (m_isF hX q1b ?_))))))
          refine And.intro (fun _ => ?_) (fun cz => by first | exact absurd cz (by decide) | exact absurd (by decide) cz)
          refine Exists.intro _ (Exists.intro _ (And.intro r11c (And.intro (vp_in_nI hk30 (by decide)) ?_)))
          rw [nI_clamp (show 6 * d + zR (zz (kdN u n) t) < 2 ^ 31 by omega)]
          refine Exists.intro _ (And.intro Q3.1.1 (Exists.intro 0 (Exists.intro 0 (And.intro (Nat.le_refl _) (And.intro (Nat.le_refl _) (m_mustF hX Q3 ?_))))))
          exact go_loc (lv' := [(2, .long (vaN u n (t + 1))), (1, .int (nI (6 * d + zR (zz (kdN u n) t)))), (0, .ref o)]) ⟨rfl, rfl, rfl, trivial⟩ (f110 _ fs3 _ Q3 (hF0 (fun x e1 e2 => (uph_ne e2).trans (fr3 x e1 e2)) ⟨_, uph_eq, fun x hx => (pk_un hx).trans (pk_un hx)⟩ (pf2.tr q2)) ((uph_ne (by omega)).trans (fr3 _ (by omega) (by omega))))
        · obtain ⟨fr3, r11c⟩ := fr2b q3
          have T3 : tokM h3 o u n m := T2.ag (fun x x1 x2 => q3 x (by omega))
          have t3m : t + 3 < m := hE.s t2m (by omega) e
          have c11 : fs3[11]? = some (.int (nI (t + 3))) := q1.2.2.2.1
          have eX2 : eXz (kdN u n) (vaN u n) (t + 2) = 0 := eX_0 (by omega) (Or.inl (by omega))
          have W3 : WRs (kdN u n) (vaN u n) (plN u n) (t + 3) wo' wp' := W2.s0 eX2
          obtain ⟨_, _, u3, u4⟩ := zok_k hZ hkd ha2 e b2 (by rw [c7]; rfl)
          have x1 : zS (zz (kdN u n) (t + 3)) = 5 := by
            have u4 : zz (kdN u n) (t + 3) = zA (zz (kdN u n) (t + 2)) (kdN u n (t + 2)) 5 := u4
            rw [u4, zA_S]
          have eX3 : eXz (kdN u n) (vaN u n) (t + 3) = if 9 < vaN u n (t + 3) then 5 else 0 := if_pos x1
          refine Exists.intro _ (And.intro q1.1.1 (Exists.intro 0 (Exists.intro 0 (And.intro (Nat.le_refl _) (And.intro (Nat.le_refl _) (m_is (k := 2) hX q1 T3 hu t3m hm (by decide) ?_))))))
          rw [show decide (mkK (kdN u n ((t + 2 + 1, 0, 420 * d + (cG (kdN u n) t).2.length, 420 * d + gCn (kdN u n) t), (wN (kdN u n) t, wg, wo', wp')).1.1) = 2) = decide (kdN u n (t + 3) = 3) from decide_eq_decide.mpr (k3 _)]
          by_cases e3 : kdN u n (t + 3) = 3
          · rw [decide_eq_true e3]
            refine And.intro (fun cz => by first | exact absurd cz (by decide) | exact absurd (by decide) cz) (fun _ => ?_)
            obtain ⟨o2, o3, o4, o5, b2, b3, b4, b5, p⟩ := id T3
            obtain ⟨q, r1, r2, r3⟩ := (p _ t3m).2.2.1 e3
            refine Exists.intro _ (And.intro q1.1.1 (Exists.intro _ (And.intro (q1.1.2.2 4 (by decide)) ?_)))
            refine Exists.intro _ (And.intro q1.1.1 (Exists.intro _ (And.intro c11 ?_)))
            refine Exists.intro _ (Exists.intro _ (And.intro b4 (And.intro (vp_in_nI (show t + 3 < 403 by omega) (by decide)) ?_)))
            rw [nI_clamp (show t + 3 < 2 ^ 31 by omega), r3]
            have e9 : 9 < vaN u n (t + 3) ↔ 9 < q := by
              rw [r2, Int64.lt_iff_toInt_lt, lN_toInt (by omega)]
              show (9 : Int) < (q : Int) ↔ 9 < q
              omega
            by_cases c9 : 9 < q
            · rw [if_pos (e9.mpr c9)] at eX3
              refine And.intro (fun cz => absurd cz (nI_ge (a := 9) (b := q) c9 (by omega))) (fun _ => ?_)
              refine Exists.intro _ (And.intro q1.1.1 (Exists.intro _ (And.intro c11 ?_)))
              refine Exists.intro _ (And.intro q1.1.1 (Exists.intro 0 (Exists.intro 0 (And.intro (Nat.le_refl _) (And.intro (Nat.le_refl _) (m_wrong (k := 5) (j := t + 3) hX q1 T3 t3m hm hn (W3.c hu (Nat.le_refl _) u3 hn).1 ((W3.c hu (Nat.le_refl _) u3 hn).2.imp id (fun ⟨y, e1, e2, e3⟩ => ⟨y, e1, e2, Nat.ne_of_lt e3⟩)) (fun hh h4 fs4 y1 y2 y3 => ?_) (fun hh => ?_)))))))
              · have w0 : wo' = 0 := by
                  rcases (W3.c hu (Nat.le_refl _) u3 hn).2 with z | ⟨y, e1, e2, e3⟩
                  · exact z
                  · rcases hh with z | ⟨q2, x, x2, x3⟩
                    · exact z
                    · have := (nI_eq (by omega) (by omega)).mp (e1.symm.trans x)
                      omega
                have ew : wUp wo' wp' 5 (plN u n (t + 3)) = (5, nI (plN u n (t + 3))) := if_pos w0
                have W4 := W3.s1 eX3 (by decide)
                rw [ew] at W4
                exact go_loc (lv' := [(2, .long (vaN u n (t + 1))), (1, .int (nI (6 * d + zR (zz (kdN u n) t)))), (0, .ref o)]) ⟨rfl, rfl, rfl, trivial⟩ (at78 h4 fs4 5 (nI (plN u n (t + 3))) e (Or.inl W4) y1 ((pf2.tr q2).tr y2) (fun x e1 e2 => (y3 x e1).trans (fr3 x e1 e2)) ((y3 _ (by omega)).trans r11c))
              · have ew : wUp wo' wp' 5 (plN u n (t + 3)) = (wo', wp') := if_neg hh.1
                have W4 := W3.s1 eX3 (by decide)
                rw [ew] at W4
                exact go_loc (lv' := [(2, .long (vaN u n (t + 1))), (1, .int (nI (6 * d + zR (zz (kdN u n) t)))), (0, .ref o)]) ⟨rfl, rfl, rfl, trivial⟩ (at78 h3 fs3 wo' wp' e (Or.inl W4) q1 (pf2.tr q2) fr3 r11c)
            · rw [if_neg (fun z => c9 (e9.mp z))] at eX3
              refine And.intro (fun _ => ?_) (fun cz => absurd (nI_le (a := q) (b := 9) (by omega) (by decide)) cz)
              exact go_loc (lv' := [(2, .long (vaN u n (t + 1))), (1, .int (nI (6 * d + zR (zz (kdN u n) t)))), (0, .ref o)]) ⟨rfl, rfl, rfl, trivial⟩ (at78 h3 fs3 wo' wp' e (Or.inl (W3.s0 eX3)) q1 (pf2.tr q2) fr3 r11c)
          · rw [decide_eq_false e3]
            refine And.intro (fun _ => ?_) (fun cz => by first | exact absurd cz (by decide) | exact absurd (by decide) cz)
            exact go_loc (lv' := [(2, .long (vaN u n (t + 1))), (1, .int (nI (6 * d + zR (zz (kdN u n) t)))), (0, .ref o)]) ⟨rfl, rfl, rfl, trivial⟩ (at78 h3 fs3 wo' wp' e (Or.inr e3) q1 (pf2.tr q2) fr3 r11c)
      · rw [decide_eq_false c7]
        refine And.intro (fun _ => ?_) (fun cz => by first | exact absurd cz (by decide) | exact absurd (by decide) cz)
        exact go_loc (lv' := [(2, .long (vaN u n (t + 1))), (1, .int (nI (6 * d + zR (zz (kdN u n) t)))), (0, .ref o)]) ⟨rfl, rfl, rfl, trivial⟩ (fin110 (t + 2) wo' wg wp' (nI 0) _ fs2 _ (by omega) t2m ha2 (Or.inl ⟨y1, c7⟩) y2 y3 y4 y5 y6 seg2 Q1 W2 pf2 (fun x e1 e2 => (uph_ne e2).trans (fr2 x e1)) uph_eq pk_us (fun x hx => pk_un hx) (Or.inr ⟨no5 h4 k2, rfl⟩) v1 v3 (by omega))
    refine Go.of hX.2 ck_X12_tellRelay [27] 40 ?_
    refine Exists.intro _ (And.intro P.1.1 (Exists.intro 0 (Exists.intro 0 (And.intro (Nat.le_refl _) (And.intro (Nat.le_refl _) (m_goesOn hX P hT ht hm (fun e h1 fs1 x1 x2 x3 => ?_) (fun e h1 fs1 x1 x2 x3 => ?_)))))))
    · obtain ⟨y1, y2⟩ := stop_2 hkd hZ ha b0 (Or.inl (by omega))
      refine Exists.intro _ (And.intro x1.1.1 (Exists.intro 0 (Exists.intro 0 (And.intro (Nat.le_refl _) (And.intro (Nat.le_refl _) (m_namedF hX x1 (hT.ag (fun x w1 w2 => x3 x (by omega))) (fun v => ?_)))))))
      exact go_loc (lv' := [(2, .long v), (1, .int (nI (6 * d + zR (zz (kdN u n) t)))), (0, .ref o)]) ⟨rfl, rfl, rfl, trivial⟩ (f27 h1 fs1 v (by rw [y2, y1]; exact x1) (F.ob x2 x3) (x3 _ (by omega)))
    · have T2 : tokM h1 o u n m := hT.ag (fun x w1 w2 => x3 x (by omega))
      have N2 : NMp h1 o fs1 d (zI (zz (kdN u n) t)) (zR (zz (kdN u n) t)) (zL (zz (kdN u n) t)) nmI nmR nmL := NM.ag (x2 20 (by omega)) (fun j _ _ => x3 _ (by omega))
      refine Exists.intro _ (And.intro x1.1.1 (Exists.intro 0 (Exists.intro 0 (And.intro (Nat.le_refl _) (And.intro (Nat.le_refl _) (m_named hX x1 T2 hu (hE.s ht k0 e) hm hn N2 (hC_of hu W ha hn k0).1 (hC_of hu W ha hn k0).2 (fun f h2 fs2 v y0 y1 y2 y3 => ?_) (fun k2 tl tw h2 fs2 y1 y2 y3 => ?_) (fun k2 tl tw h2 fs2 y1 y2 y3 => ?_)))))))
      · obtain ⟨q1, q2⟩ := mst_tie hkd hZ (st1 e).1 (K := 2) (s2 := 4) (fun k hk => by rw [(z1 e).1]; exact if_neg hk) (by rw [(z1 e).1]; rfl) (by rw [(z1 e).1]; decide) y0
        exact go_loc (lv' := [(2, .long v), (1, .int (nI (6 * d + zR (zz (kdN u n) t)))), (0, .ref o)]) ⟨rfl, rfl, rfl, trivial⟩ (f27 h2 fs2 v (by rw [q2, q1]; exact y1) ((F.ob x2 x3).ob y2 y3) ((y3 _ (by omega)).trans (x3 _ (by omega))))
      · exact go_loc (lv' := [(2, .long (vaN u n (t + 1))), (1, .int (nI (6 * d + zR (zz (kdN u n) t)))), (0, .ref o)]) ⟨rfl, rfl, rfl, trivial⟩ (good h2 fs2 _ _ k2 tl (Or.inl ⟨tw, rfl⟩) y1 (x2.tr y2) (fun x hx => (y3 x hx).trans (x3 x hx)))
      · exact go_loc (lv' := [(2, .long (vaN u n (t + 1))), (1, .int (nI (6 * d + zR (zz (kdN u n) t)))), (0, .ref o)]) ⟨rfl, rfl, rfl, trivial⟩ (good h2 fs2 wo wp k2 tl (Or.inr ⟨tw, rfl⟩) y1 (x2.tr y2) (fun x hx => (y3 x hx).trans (x3 x hx)))
  refine en_X12_tellRelay hX [18] 40 rfl ?_
  refine Exists.intro _ (And.intro P.1.1 (Exists.intro _ (And.intro e20 ?_)))
  refine Exists.intro _ (And.intro P.1.1 (Exists.intro _ (And.intro (P.1.2.2 10 (by decide)) ?_)))
  refine Exists.intro _ (And.intro P.1.1 (Exists.intro _ (And.intro e20 ?_)))
  refine Exists.intro _ (Exists.intro _ (And.intro a1 (And.intro (vp_in_nI hd5 (by decide)) ?_)))
  rw [nI_clamp (show d < 2 ^ 31 by omega), a5]
  exact go_loc (lv' := [(1, .int (6 * nI d + nI (zR (zz (kdN u n) t)))), (0, .ref o)]) ⟨rfl, rfl, trivial⟩ (at17 _ ei)
