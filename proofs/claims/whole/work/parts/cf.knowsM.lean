/-! the model looks up the names of contacts and nevers -/
def thn (nmI nmR : Nat → Int64) (cI cR : Nat) (x : Int64) : Nat := if thF nmI nmR cI cR x = -1 then 0 else (thF nmI nmR cI cR x).toNatClampNeg
theorem thn_c {nmI nmR : Nat → Int64} {cI cR : Nat} {x : Int64} (h : thF nmI nmR cI cR x = -1 ∨ ∃ k, k < 16 ∧ thF nmI nmR cI cR x = nI k) : (thF nmI nmR cI cR x = -1 ∧ thn nmI nmR cI cR x = 0) ∨ (thF nmI nmR cI cR x ≠ -1 ∧ thF nmI nmR cI cR x = nI (thn nmI nmR cI cR x) ∧ thn nmI nmR cI cR x < 16) := by
  unfold thn
  by_cases c : thF nmI nmR cI cR x = -1
  · rw [if_pos c]
    exact Or.inl ⟨c, rfl⟩
  · rw [if_neg c]
    obtain ⟨k, k1, k2⟩ := h.resolve_left c
    rw [k2, nI_clamp (by omega)]
    exact Or.inr ⟨by rw [← k2]; exact c, rfl, k1⟩
set_option maxHeartbeats 16000000 in
set_option maxHeartbeats 8000000 in
theorem m_knows {l : Launch} {G : GG} {h : AH} {nx : Nat} {Post : Option Value → AH → Nat → Prop} {o d n m N : Nat} {u : Nat → Nat} {h0 : AH} {fs fs0 : List Value} (hX : XC G ∧ TX l G) (hS : BSt u n o d N h0 fs0 h fs N) (hT : tokM h o u n m) (hu : ∀ i, u i < 256) (hNm : N < m) (hm : m ≤ 401) (hn : n ≤ 2000) (hX0 : TXT (kdN u n) N) (f20 : fs0[20]? = some (.int (nI d))) (hd : d < 4) (hP : ∀ (h1 : AH) (fs1 : List Value) (wo : Nat) (wp : Int32) (nmI nmR : Nat → Int64), (∃ wg, PRs h1 o fs1 ((N, 0, 420 * d + (cG (kdN u n) N).2.length, 420 * d + gCn (kdN u n) N), (wN (kdN u n) N, wg, wo, wp))) → WsE N (fX (kdN u n) (vaN u n) N) (plN u n) wo wp → FRM o d h0 fs0 h1 fs1 → pfF fs fs1 → (∀ x, x ≠ o → x ≠ o + 1 + 20 → x ≠ o + 1 + 27 → h1 x = h x) → (∀ i, i < N → zS (zz (kdN u n) i) = 1 → nmI (zI (zz (kdN u n) i)) = vaN u n i) → (∀ i, i < N → zS (zz (kdN u n) i) = 3 → nmR (zR (zz (kdN u n) i)) = vaN u n i) → (∃ g20 : Nat → Int32, h1 (o + 1 + 20) = some (.inl (0, 200, .inl g20)) ∧ ∀ i, i < N → zC (zz (kdN u n) i) = true → kdN u n i = 2 → g20 (40 * d + zK (zz (kdN u n) i)) = thF nmI nmR (zI (zz (kdN u n) N)) (zR (zz (kdN u n) N)) (vaN u n i)) → rwC h1 o (420 * d) (cvK (kdN u n) (fun i => thn nmI nmR (zI (zz (kdN u n) N)) (zR (zz (kdN u n) N)) (vaN u n i)) (wN (kdN u n) N)) (cG (kdN u n) N).2 → Post none h1 nx) : Runs l G i_X12_knows 0 0 [.ref o] h nx Post := by
  have hkd := kdN_lt hu n
  obtain ⟨⟨wo, wp, M, W⟩, s1, s2, s3, s4, s5⟩ := hS
  obtain ⟨⟨wg, P⟩, F, ⟨g18, g19, g21, g22, g29, g30, r18, r19, r21, r22, r29, r30, k1, k2, k3⟩, ⟨g27, r27, q27⟩⟩ := M
  have f20b : ∀ {h1 : AH} {fs1 : List Value}, FRM o d h0 fs0 h1 fs1 → fs1[20]? = some (.int (nI d)) := fun hF => (hF.1 20 (by omega)).trans f20
  have e20 : fs[20]? = some (.int (nI d)) := f20b F
  obtain ⟨nmI, nmR, nmL, NM, n1, n2, n3⟩ := names_of hX0 e20 (by omega) s1 s2 s3
  obtain ⟨g20, r20⟩ := P.2.1.i 20 (by decide) (by decide) rfl
  have ha := hX0.2.1
  have hz := zW_all hkd ha
  have hK40 : zK (zz (kdN u n) N) ≤ 40 := hz.2.2.2.2.2.2.2.1
  have hN4 : N ≤ 400 := by omega
  have hd5 : d < 5 := by omega
  have w4 := (cG_w hkd ha).2.2.2
  have wl := wN_le (kdN u n) N
  have pl1 : ∀ i, i < N → plN u n i ≤ 2000 := fun i _ => Nat.le_trans (plN_le u n i) hn
  have pl2 : ∀ i j, i < j → j < N → plN u n i < plN u n j := fun i j hij hj => plN_m hij (fun k h1 h2 => zok_0 (zW_all hkd (fun q hq => ha q (by omega))).1 (ha k (by omega)))
  have ei : (40 : Int32) * nI d = nI (40 * d) := by rw [show (40 : Int32) = nI 40 from rfl, nI_mul]
  have ei2 : (40 : Int32) * nI d + nI (zK (zz (kdN u n) N)) = nI (40 * d + zK (zz (kdN u n) N)) := by rw [ei, nI_add]
  have TH := th_same (vl := vaN u n) hX0 n1 n2
  -- the names of nevers
  have loop2 : ∀ (k w : Nat) (h1 : AH) (fs1 : List Value) (wo : Nat) (wp : Int32), w + k = wN (kdN u n) N → PRs h1 o fs1 ((N, 0, 420 * d + (cG (kdN u n) N).2.length, 420 * d + gCn (kdN u n) N), (wN (kdN u n) N, wg, wo, wp)) → WsE N (eK (kdN u n) (vaN u n) N (zK (zz (kdN u n) N)) w) (plN u n) wo wp → FRM o d h0 fs0 h1 fs1 → pfF fs fs1 → (∀ x, x ≠ o → x ≠ o + 1 + 20 → x ≠ o + 1 + 27 → h1 x = h x) → (∃ g20 : Nat → Int32, h1 (o + 1 + 20) = some (.inl (0, 200, .inl g20)) ∧ ∀ i, i < N → zC (zz (kdN u n) i) = true → kdN u n i = 2 → g20 (40 * d + zK (zz (kdN u n) i)) = thF nmI nmR (zI (zz (kdN u n) N)) (zR (zz (kdN u n) N)) (vaN u n i)) → rwC h1 o (420 * d) (cvK (kdN u n) (fun i => thn nmI nmR (zI (zz (kdN u n) N)) (zR (zz (kdN u n) N)) (vaN u n i)) w) (cG (kdN u n) N).2 → Go l G 12 s_X12_knows 0 0 Post 53 [(1, .int (nI w)), (0, .ref o)] [] h1 nx 0 0 := by
    intro k
    induction k with
    | zero =>
      intro w h1 fs1 wo wp e y1 y2 y3 y4 y5 y6 y7
      have e : w = wN (kdN u n) N := by omega
      subst e
      have c45 : fs1[45]? = some (.int (nI (wN (kdN u n) N))) := y1.2.2.2.2.2.2.2.1
      refine Go.of hX.2 ck_X12_knows [] 20 ?_
      refine Exists.intro _ (And.intro y1.1.1 (Exists.intro _ (And.intro c45 ?_)))
      refine And.intro (fun _ => ?_) (fun cz => absurd (nI_le (Nat.le_refl (wN (kdN u n) N)) (by omega)) cz)
      exact hP h1 fs1 wo wp nmI nmR ⟨wg, y1⟩ (y2.same (fun i hi => eK_all hX0 hi)) y3 y4 y5 n1 n2 y6 y7
    | succ k ih =>
      intro w h1 fs1 wo wp e y1 y2 y3 y4 y5 y6 y7
      obtain ⟨i, i1, i2, i3⟩ := exW (kd := kdN u n) (N := N) (k := w) (by omega)
      obtain ⟨c1, c2, c3⟩ := wQ_of i2
      obtain ⟨p1, p2⟩ := cG_of (kd := kdN u n) c1 (by omega) i1
      obtain ⟨z1, z2, z3⟩ := eK_wn (vl := vaN u n) (N := N) (k := zK (zz (kdN u n) N)) i2 i3
      obtain ⟨q1, q2⟩ := k3 i i1 i2
      rw [i3] at q1 q2
      have c45 : fs1[45]? = some (.int (nI (wN (kdN u n) N))) := y1.2.2.2.2.2.2.2.1
      have T1 : tokM h1 o u n m := hT.ag (fun x x1 x2 => y5 x (by omega) (by omega) (by omega))
      have N1 : NMp h1 o fs1 d (zI (zz (kdN u n) N)) (zR (zz (kdN u n) N)) (zL (zz (kdN u n) N)) nmI nmR nmL := NM.ag8 (y4 20 (by omega)) (fun j hj => y5 _ (by omega) (by omega) (by omega))
      have wc := y2.c (eK_le _ _ _ _ _) z1 pl1 pl2 i1
      have tc := thn_c (TH (vaN u n i)).2.1
      have b29 := (y5 (o + 1 + 29) (by omega) (by omega) (by omega)).trans r29
      -- behind the look
      have at71 : ∀ (h2 : AH) (fs2 : List Value) (wo2 : Nat) (wp2 : Int32), PRs h2 o fs2 ((N, 0, 420 * d + (cG (kdN u n) N).2.length, 420 * d + gCn (kdN u n) N), (wN (kdN u n) N, wg, wo2, wp2)) → WsE N (eK (kdN u n) (vaN u n) N (zK (zz (kdN u n) N)) (w + 1)) (plN u n) wo2 wp2 → pfF fs1 fs2 → (∀ x, x ≠ o → h2 x = h1 x) → Go l G 12 s_X12_knows 0 0 Post 72 [(2, .int (thF nmI nmR (zI (zz (kdN u n) N)) (zR (zz (kdN u n) N)) (vaN u n i))), (1, .int (nI w)), (0, .ref o)] [] h2 nx 0 0 := by
        intro h2 fs2 wo2 wp2 v1 v2 v3 v4
        obtain ⟨gg, gg1, gg2⟩ := y7
        have b27 := (v4 (o + 1 + 27) (by omega)).trans gg1
        have b30 := (v4 (o + 1 + 30) (by omega)).trans ((y5 (o + 1 + 30) (by omega) (by omega) (by omega)).trans r30)
        have hpos : 420 * d + (cG (kdN u n) i).2.length < 2100 := by omega
        have old := gg2 _ p1
        rw [p2] at old
        have eold : cvK (kdN u n) (fun i => thn nmI nmR (zI (zz (kdN u n) N)) (zR (zz (kdN u n) N)) (vaN u n i)) w (1000 + i) = 60 + (decide (zS (zz (kdN u n) i) = 11)).toNat := by
          unfold cvK
          rw [if_neg (by omega), Nat.add_sub_cancel_left, if_pos c3, if_neg (show ¬ wN (kdN u n) i < w by omega), Nat.add_zero]
        have enew : cvK (kdN u n) (fun i => thn nmI nmR (zI (zz (kdN u n) N)) (zR (zz (kdN u n) N)) (vaN u n i)) (w + 1) (1000 + i) = 60 + (decide (zS (zz (kdN u n) i) = 11)).toNat + 2 * thn nmI nmR (zI (zz (kdN u n) N)) (zR (zz (kdN u n) N)) (vaN u n i) := by
          unfold cvK
          rw [if_neg (by omega), Nat.add_sub_cancel_left, if_pos c3, if_pos (show wN (kdN u n) i < w + 1 by omega)]
        rw [eold] at old
        have at96 : ∀ x : Int32, x = nI (2 * thn nmI nmR (zI (zz (kdN u n) N)) (zR (zz (kdN u n) N)) (vaN u n i)) → Go l G 12 s_X12_knows 0 0 Post 96 [(2, .int (thF nmI nmR (zI (zz (kdN u n) N)) (zR (zz (kdN u n) N)) (vaN u n i))), (1, .int (nI w)), (0, .ref o)] [.int x, .int (nI (60 + (decide (zS (zz (kdN u n) i) = 11)).toNat)), .int (nI (420 * d + (cG (kdN u n) i).2.length)), .ref (o + 1 + 27)] h2 nx 0 0 := by
          intro x hx
          have Q1 := v1.row (j := 27) (e := .inl (0, 2100, .inl (upd gg (420 * d + (cG (kdN u n) i).2.length) (nI (60 + (decide (zS (zz (kdN u n) i) = 11)).toNat) + x)))) (rowS_i (by decide) rfl ⟨_, rfl⟩)
          have nxt := ih (w + 1) _ fs2 wo2 wp2 (by omega) Q1 v2 (y3.tr (FRM.up [27] (FRM.rf o d h1 fs1) v3 (fun x e1 e2 => (uph_ne (e2 27 (by decide))).trans (v4 x e1)) ⟨⟨by decide, by decide, fun _ => rowZ.u gg1 uph_eq (show 420 * d ≤ _ by omega)⟩, True.intro⟩)) (y4.tr v3) (fun x e1 e2 e3 => (uph_ne e3).trans ((v4 x e1).trans (y5 x e1 e2 e3))) (by
            obtain ⟨ga, ga1, ga2⟩ := y6
            exact ⟨ga, (uph_ne (by omega)).trans ((v4 _ (by omega)).trans ga1), ga2⟩) ⟨_, uph_eq, fun p hp => by
            by_cases ep : p = (cG (kdN u n) i).2.length
            · rw [ep, pk_us, p2, enew, hx, nI_add]
            · rw [pk_un (by omega), cvK_s hkd ha i2 i3 hp ep]
              exact gg2 p hp⟩
          rw [nI_succ w] at nxt
          refine Go.of hX.2 ck_X12_knows [53] 20 ?_
          refine Exists.intro _ (Exists.intro _ (And.intro b27 (And.intro (vp_in_nI hpos (by decide)) ?_)))
          rw [nI_clamp (show 420 * d + (cG (kdN u n) i).2.length < 2 ^ 31 by omega)]
          exact go_loc (lv' := [(1, .int (nI w + 1)), (0, .ref o)]) ⟨rfl, rfl, trivial⟩ (nxt)
        refine Go.of hX.2 ck_X12_knows [96] 40 ?_
        refine Exists.intro _ (And.intro v1.1.1 (Exists.intro _ (And.intro (v1.1.2.2 27 (by decide)) ?_)))
        refine Exists.intro _ (And.intro v1.1.1 (Exists.intro _ (And.intro (v1.1.2.2 30 (by decide)) ?_)))
        refine Exists.intro _ (Exists.intro _ (And.intro b30 (And.intro (vp_in_nI (show w < 400 by omega) (by decide)) ?_)))
        rw [nI_clamp (show w < 2 ^ 31 by omega), q2]
        refine Exists.intro _ (Exists.intro _ (And.intro b27 (And.intro (vp_in_nI hpos (by decide)) ?_)))
        rw [nI_clamp (show 420 * d + (cG (kdN u n) i).2.length < 2 ^ 31 by omega), old]
        rcases tc with ⟨t1, t2⟩ | ⟨t1, t2, t3⟩
        · refine And.intro (fun cz => absurd (t1) cz) (fun _ => ?_)
          exact go_loc (lv' := [(2, .int (thF nmI nmR (zI (zz (kdN u n) N)) (zR (zz (kdN u n) N)) (vaN u n i))), (1, .int (nI w)), (0, .ref o)]) ⟨rfl, rfl, rfl, trivial⟩ (at96 0 (by rw [t2]; rfl))
        · refine And.intro (fun _ => ?_) (fun cz => absurd cz (t1))
          exact go_loc (lv' := [(2, .int (thF nmI nmR (zI (zz (kdN u n) N)) (zR (zz (kdN u n) N)) (vaN u n i))), (1, .int (nI w)), (0, .ref o)]) ⟨rfl, rfl, rfl, trivial⟩ (at96 _ (by rw [t2, show (2 : Int32) = nI 2 from rfl, nI_mul]))
      refine Go.of hX.2 ck_X12_knows [72] 40 ?_
      refine Exists.intro _ (And.intro y1.1.1 (Exists.intro _ (And.intro c45 ?_)))
      refine And.intro (fun cz => absurd cz (nI_ge (a := w) (b := wN (kdN u n) N) (by omega) (by omega))) (fun _ => ?_)
      refine Exists.intro _ (And.intro y1.1.1 (Exists.intro _ (And.intro (y1.1.2.2 29 (by decide)) ?_)))
      refine Exists.intro _ (Exists.intro _ (And.intro b29 (And.intro (vp_in_nI (show w < 400 by omega) (by decide)) ?_)))
      rw [nI_clamp (show w < 2 ^ 31 by omega), q1]
      refine Exists.intro _ (And.intro y1.1.1 (Exists.intro 0 (Exists.intro 0 (And.intro (Nat.le_refl _) (And.intro (Nat.le_refl _) (m_thingNamed hX y1 T1 (show i < m by omega) c1 hm hn N1 wc.1 wc.2 (fun hne => ?_) (fun he hh h2 fs2 v1 v2 v3 => ?_) (fun he hh => ?_)))))))
      · have z2b : eK (kdN u n) (vaN u n) N (zK (zz (kdN u n) N)) (w + 1) i = 0 := by
          rw [z2]
          cases hv : zVr (kdN u n) (vaN u n) (toL (kdN u n) N) (vaN u n i) with
          | none => exact absurd ((TH (vaN u n i)).1.mpr hv) hne
          | some v => rfl
        have hsd : ∀ j, j < N → eK (kdN u n) (vaN u n) N (zK (zz (kdN u n) N)) (w + 1) j = eK (kdN u n) (vaN u n) N (zK (zz (kdN u n) N)) w j := fun j _ => by
          by_cases ej : j = i
          · rw [ej, z2b, z1]
          · exact z3 j ej
        exact go_loc (lv' := [(2, .int (thF nmI nmR (zI (zz (kdN u n) N)) (zR (zz (kdN u n) N)) (vaN u n i))), (1, .int (nI w)), (0, .ref o)]) ⟨rfl, rfl, rfl, trivial⟩ (at71 h1 fs1 wo wp y1 (y2.same hsd) (pfF.rf fs1) (fun _ _ => rfl))
      · have z2b : eK (kdN u n) (vaN u n) N (zK (zz (kdN u n) N)) (w + 1) i = 4 := by
          rw [z2, (TH (vaN u n i)).1.mp he]
          rfl
        have goal := at71 h2 fs2 4 (nI (plN u n i)) v1 (y2.new (fun j _ hj => z3 j hj) z2b pl1 pl2 i1 hh) v2 v3
        rw [he] at goal
        exact go_loc (lv' := [(2, .int (-1)), (1, .int (nI w)), (0, .ref o)]) ⟨rfl, rfl, rfl, trivial⟩ (goal)
      · have goal := at71 h1 fs1 wo wp y1 (y2.old (fun j _ hj => z3 j hj) z1 pl1 pl2 i1 hh) (pfF.rf fs1) (fun _ _ => rfl)
        rw [he] at goal
        exact go_loc (lv' := [(2, .int (-1)), (1, .int (nI w)), (0, .ref o)]) ⟨rfl, rfl, rfl, trivial⟩ (goal)
  -- the contacts
  have loop1 : ∀ (k c : Nat) (h1 : AH) (fs1 : List Value) (wo : Nat) (wp : Int32) (g20 : Nat → Int32), c + k = zK (zz (kdN u n) N) → PRs h1 o fs1 ((N, 0, 420 * d + (cG (kdN u n) N).2.length, 420 * d + gCn (kdN u n) N), (wN (kdN u n) N, wg, wo, wp)) → WsE N (eK (kdN u n) (vaN u n) N c 0) (plN u n) wo wp → FRM o d h0 fs0 h1 fs1 → pfF fs fs1 → (∀ x, x ≠ o → x ≠ o + 1 + 20 → h1 x = h x) → h1 (o + 1 + 20) = some (.inl (0, 200, .inl g20)) → (∀ i, i < N → zC (zz (kdN u n) i) = true → kdN u n i = 2 → zK (zz (kdN u n) i) < c → g20 (40 * d + zK (zz (kdN u n) i)) = thF nmI nmR (zI (zz (kdN u n) N)) (zR (zz (kdN u n) N)) (vaN u n i)) → Go l G 12 s_X12_knows 0 0 Post 8 [(1, .int (nI (40 * d + c))), (0, .ref o)] [] h1 nx 0 0 := by
    intro k
    induction k with
    | zero =>
      intro c h1 fs1 wo wp g20 e y1 y2 y3 y4 y5 y6 y7
      have e : c = zK (zz (kdN u n) N) := by omega
      subst e
      have b18 := (y5 (o + 1 + 18) (by omega) (by omega)).trans r18
      have q20 := f20b y3
      have nxt := loop2 (wN (kdN u n) N) 0 h1 fs1 wo wp (Nat.zero_add _) y1 y2 y3 y4 (fun x e1 e2 _ => y5 x e1 e2) ⟨g20, y6, fun i hi hc hk => y7 i hi hc hk (zK_lt hkd ha hi hc hk)⟩ ⟨g27, (y5 _ (by omega) (by omega)).trans r27, by rw [cvK_0]; exact q27⟩
      refine Go.of hX.2 ck_X12_knows [53] 40 ?_
      refine Exists.intro _ (And.intro y1.1.1 (Exists.intro _ (And.intro q20 ?_)))
      refine Exists.intro _ (And.intro y1.1.1 (Exists.intro _ (And.intro (y1.1.2.2 18 (by decide)) ?_)))
      refine Exists.intro _ (And.intro y1.1.1 (Exists.intro _ (And.intro q20 ?_)))
      refine Exists.intro _ (Exists.intro _ (And.intro b18 (And.intro (vp_in_nI hd5 (by decide)) ?_)))
      rw [nI_clamp (show d < 2 ^ 31 by omega), k1]
      refine And.intro (fun _ => ?_) (fun cz => absurd ((show (40 : Int32) * nI d + nI (zK (zz (kdN u n) N)) ≤ nI (40 * d + zK (zz (kdN u n) N)) from by rw [ei2]; exact nI_le (Nat.le_refl _) (by omega))) cz)
      exact go_loc (lv' := [(1, .int (nI 0)), (0, .ref o)]) ⟨rfl, rfl, trivial⟩ (nxt)
    | succ k ih =>
      intro c h1 fs1 wo wp g20 e y1 y2 y3 y4 y5 y6 y7
      obtain ⟨i, _, i1, i2, i3, i4, _⟩ := exK (i0 := 0) (m := N) (k := c) hX0 (by omega) (Nat.zero_le _) (by rw [Nat.zero_add]; omega)
      have i1 : i < N := by omega
      obtain ⟨z1, z2, z3⟩ := eK_kn (vl := vaN u n) (w := 0) hX0 i1 i2 i3 i4
      obtain ⟨_, _, q3⟩ := k2 i i1 i2 i3
      rw [i4] at q3
      have b18 := (y5 (o + 1 + 18) (by omega) (by omega)).trans r18
      have b22 := (y5 (o + 1 + 22) (by omega) (by omega)).trans r22
      have q20 := f20b y3
      have T1 : tokM h1 o u n m := hT.ag (fun x x1 x2 => y5 x (by omega) (by omega))
      have N1 : NMp h1 o fs1 d (zI (zz (kdN u n) N)) (zR (zz (kdN u n) N)) (zL (zz (kdN u n) N)) nmI nmR nmL := NM.ag8 (y4 20 (by omega)) (fun j hj => y5 _ (by omega) (by omega))
      have wc := y2.c (eK_le _ _ _ _ _) z1 pl1 pl2 i1
      have at44 : ∀ (h2 : AH) (fs2 : List Value) (wo2 : Nat) (wp2 : Int32), PRs h2 o fs2 ((N, 0, 420 * d + (cG (kdN u n) N).2.length, 420 * d + gCn (kdN u n) N), (wN (kdN u n) N, wg, wo2, wp2)) → WsE N (eK (kdN u n) (vaN u n) N (c + 1) 0) (plN u n) wo2 wp2 → pfF fs1 fs2 → (∀ x, x ≠ o → h2 x = h1 x) → Go l G 12 s_X12_knows 0 0 Post 44 [(1, .int (nI (40 * d + c))), (0, .ref o)] [.int (thF nmI nmR (zI (zz (kdN u n) N)) (zR (zz (kdN u n) N)) (vaN u n i)), .int (nI (40 * d + c)), .ref (o + 1 + 20)] h2 nx 0 0 := by
        intro h2 fs2 wo2 wp2 v1 v2 v3 v4
        have b20 := (v4 _ (by omega)).trans y6
        have Q1 := v1.row (j := 20) (e := .inl (0, 200, .inl (upd g20 (40 * d + c) (thF nmI nmR (zI (zz (kdN u n) N)) (zR (zz (kdN u n) N)) (vaN u n i))))) (rowS_i (by decide) rfl ⟨_, rfl⟩)
        have nxt := ih (c + 1) _ fs2 wo2 wp2 _ (by omega) Q1 v2 (y3.tr (FRM.up [20] (FRM.rf o d h1 fs1) v3 (fun x e1 e2 => (uph_ne (e2 20 (by decide))).trans (v4 x e1)) ⟨⟨by decide, by decide, fun _ => rowZ.u y6 uph_eq (show 40 * d ≤ _ by omega)⟩, True.intro⟩)) (y4.tr v3) (fun x e1 e2 => (uph_ne e2).trans ((v4 x e1).trans (y5 x e1 e2))) uph_eq (fun j hj hc hk hl => by
          by_cases ej : zK (zz (kdN u n) j) = c
          · have : j = i := (tkK_c hX0 hj hc hk).symm.trans (by rw [ej, ← i4]; exact tkK_c hX0 i1 i2 i3)
            rw [ej, pk_us, this]
          · rw [pk_un (by omega)]
            exact y7 j hj hc hk (by omega))
        rw [← Nat.add_assoc, nI_succ (40 * d + c)] at nxt
        refine Go.of hX.2 ck_X12_knows [8] 20 ?_
        refine Exists.intro _ (Exists.intro _ (And.intro b20 (And.intro (vp_in_nI (show 40 * d + c < 200 by omega) (by decide)) ?_)))
        rw [nI_clamp (show 40 * d + c < 2 ^ 31 by omega)]
        exact go_loc (lv' := [(1, .int (nI (40 * d + c) + 1)), (0, .ref o)]) ⟨rfl, rfl, trivial⟩ (nxt)
      refine Go.of hX.2 ck_X12_knows [44] 40 ?_
      refine Exists.intro _ (And.intro y1.1.1 (Exists.intro _ (And.intro q20 ?_)))
      refine Exists.intro _ (And.intro y1.1.1 (Exists.intro _ (And.intro (y1.1.2.2 18 (by decide)) ?_)))
      refine Exists.intro _ (And.intro y1.1.1 (Exists.intro _ (And.intro q20 ?_)))
      refine Exists.intro _ (Exists.intro _ (And.intro b18 (And.intro (vp_in_nI hd5 (by decide)) ?_)))
      rw [nI_clamp (show d < 2 ^ 31 by omega), k1]
      refine And.intro (fun cz => absurd cz ((show ¬ (40 : Int32) * nI d + nI (zK (zz (kdN u n) N)) ≤ nI (40 * d + c) from by rw [ei2]; exact nI_ge (by omega) (by omega)))) (fun _ => ?_)
      refine Exists.intro _ (And.intro y1.1.1 (Exists.intro _ (And.intro (y1.1.2.2 20 (by decide)) ?_)))
      refine Exists.intro _ (And.intro y1.1.1 (Exists.intro _ (And.intro (y1.1.2.2 22 (by decide)) ?_)))
      refine Exists.intro _ (Exists.intro _ (And.intro b22 (And.intro (vp_in_nI (show 40 * d + c < 200 by omega) (by decide)) ?_)))
      rw [nI_clamp (show 40 * d + c < 2 ^ 31 by omega), q3]
      refine Exists.intro _ (And.intro y1.1.1 (Exists.intro 0 (Exists.intro 0 (And.intro (Nat.le_refl _) (And.intro (Nat.le_refl _) (m_thingNamed hX y1 T1 (show i < m by omega) i3 hm hn N1 wc.1 wc.2 (fun hne => ?_) (fun he hh h2 fs2 v1 v2 v3 => ?_) (fun he hh => ?_)))))))
      · have z2b : eK (kdN u n) (vaN u n) N (c + 1) 0 i = 0 := by
          rw [z2]
          cases hv : zVr (kdN u n) (vaN u n) (toL (kdN u n) N) (vaN u n i) with
          | none => exact absurd ((TH (vaN u n i)).1.mpr hv) hne
          | some v => rfl
        have hsd : ∀ j, j < N → eK (kdN u n) (vaN u n) N (c + 1) 0 j = eK (kdN u n) (vaN u n) N c 0 j := fun j hj => by
          by_cases ej : j = i
          · rw [ej, z2b, z1]
          · exact z3 j hj ej
        exact go_loc (lv' := [(1, .int (nI (40 * d + c))), (0, .ref o)]) ⟨rfl, rfl, trivial⟩ (at44 h1 fs1 wo wp y1 (y2.same hsd) (pfF.rf fs1) (fun _ _ => rfl))
      · have z2b : eK (kdN u n) (vaN u n) N (c + 1) 0 i = 4 := by
          rw [z2, (TH (vaN u n i)).1.mp he]
          rfl
        have goal := at44 h2 fs2 4 (nI (plN u n i)) v1 (y2.new (fun j hj1 hj => z3 j hj1 hj) z2b pl1 pl2 i1 hh) v2 v3
        rw [he] at goal
        exact go_loc (lv' := [(1, .int (nI (40 * d + c))), (0, .ref o)]) ⟨rfl, rfl, trivial⟩ (goal)
      · have goal := at44 h1 fs1 wo wp y1 (y2.old (fun j hj1 hj => z3 j hj1 hj) z1 pl1 pl2 i1 hh) (pfF.rf fs1) (fun _ _ => rfl)
        rw [he] at goal
        exact go_loc (lv' := [(1, .int (nI (40 * d + c))), (0, .ref o)]) ⟨rfl, rfl, trivial⟩ (goal)
  have W0 : WsE N (eK (kdN u n) (vaN u n) N 0 0) (plN u n) wo wp := WsE.same (E := eXz (kdN u n) (vaN u n)) W (fun i _ => eK_0)
  have st8 : ∀ v, v = nI (40 * d + 0) → Go l G 12 s_X12_knows 0 0 Post 8 [(1, .int v), (0, .ref o)] [] h nx 0 0 := fun v hv => by
    rw [hv]
    exact loop1 (zK (zz (kdN u n) N)) 0 h fs wo wp g20 (Nat.zero_add _) P W0 F (pfF.rf fs) (fun _ _ _ => rfl) r20 (fun i hi hc hk hl => absurd hl (Nat.not_lt_zero _))
  refine en_X12_knows hX [8] 20 rfl ?_
  refine Exists.intro _ (And.intro P.1.1 (Exists.intro _ (And.intro e20 ?_)))
  exact go_loc (lv' := [(1, .int (40 * nI d)), (0, .ref o)]) ⟨rfl, rfl, trivial⟩ (st8 _ ei)
