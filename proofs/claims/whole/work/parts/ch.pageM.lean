/-! the page of a text that was read is its drawing -/
/-- where the codes and signs of page d end -/
def MPx (h : AH) (o d : Nat) (D : DD) : Prop := ∃ gf gt gs ge : Nat → Int32, h (o + 1 + 23) = some (.inl (0, 85, .inl gf)) ∧ h (o + 1 + 24) = some (.inl (0, 85, .inl gt)) ∧ h (o + 1 + 25) = some (.inl (0, 85, .inl gs)) ∧ h (o + 1 + 26) = some (.inl (0, 85, .inl ge)) ∧ (∀ c, c < 11 → cirB (dR D) (dL D) c = true → ∃ a b, gf (17 * d + c) = nI a ∧ gt (17 * d + c) = nI b ∧ b ≤ 420 * (d + 1) ∧ ∃ a2 b2, gs (17 * d + c) = nI a2 ∧ ge (17 * d + c) = nI b2 ∧ b2 ≤ 420 * (d + 1)) ∧ ∀ k, k < dV D → ∃ a b, gf (17 * d + 11 + k) = nI a ∧ gt (17 * d + 11 + k) = nI b ∧ b ≤ 420 * (d + 1)
theorem MPx.ag {h h' : AH} {o d : Nat} {D : DD} (hD : MPx h o d D) (hs : ∀ j, j < 30 → h' (o + 1 + j) = h (o + 1 + j)) : MPx h' o d D := by
  obtain ⟨gf, gt, gs, ge, a, b, c, e, r⟩ := hD
  exact ⟨gf, gt, gs, ge, (hs 23 (by decide)).trans a, (hs 24 (by decide)).trans b, (hs 25 (by decide)).trans c, (hs 26 (by decide)).trans e, r⟩
theorem cG_pre {kd : Nat → Nat} {t t2 : Nat} (h : t ≤ t2) : ∃ M, (cG kd t2).2 = (cG kd t).2 ++ M := by
  obtain ⟨m, rfl⟩ := Nat.exists_eq_add_of_le h
  induction m with
  | zero => exact ⟨[], (List.append_nil _).symm⟩
  | succ m ih =>
    obtain ⟨M, e⟩ := ih (by omega)
    obtain ⟨e2, h1, _⟩ := cSt_app (zS (zz kd (t + m))) (kd (t + m)) (t + m) (cG kd (t + m))
    have h1 : (cG kd (t + (m + 1))).2 = (cG kd (t + m)).2 ++ e2 := h1
    exact ⟨M ++ e2, by rw [h1, e, List.append_assoc]⟩
theorem eXz_0 {kd : Nat → Nat} {vl : Nat → Int64} {N i : Nat} (h : TXT kd N) (hi : i < N) (hf : fX kd vl N i = 0) : eXz kd vl i = 0 := by
  rw [eK_all h hi] at hf
  unfold eK at hf
  split at hf
  · next c =>
    rcases c with ⟨a, b, _⟩ | ⟨a, _⟩
    · have := (zC_S a).1
      exact eX_0 (by omega) (Or.inr (by omega))
    · have := (wQ_of a).2.1
      exact eX_0 (by omega) (Or.inr (by omega))
  · exact hf
theorem gCn_in {kd : Nat → Nat} {a m : Nat} (hi : inC kd a (a + m)) : ∀ j, j ≤ m → gCn kd (a + j) = gCn kd a + j
  | 0, _ => rfl
  | j + 1, hj => by
    obtain ⟨h1, h2⟩ := hi (a + j) (by omega) (by omega)
    rw [show a + (j + 1) = a + j + 1 from rfl, gCn_s h1 h2, gCn_in hi j (by omega)]
    rfl
section PGM
variable {u : Nat → Nat} {n o d N : Nat} {nmI nmR : Nat → Int64}
/-- the codes of the circuit whose tokens are a .. a + m, as they lie in the row -/
theorem seg_codes {th : Nat → Nat} {h1 : AH} {w a m : Nat} {kd : Nat → Nat} (hX0 : TXT kd N) (hN4 : N ≤ 400) (hm : a + m < N) (hi : inC kd a (a + m)) (h12 : kd (a + m) = 12) (h10 : 10 ≤ zS (zz kd (a + m))) (hs : zS (zz kd a) = 10) (hW : (cG kd a).1 = []) (hC : rwC h1 o (420 * d) (cvK kd th w) (cG kd N).2) : ∃ L : List Nat, (cG kd (a + m + 1)).2 = (cG kd a).2 ++ L ∧ (∀ (pt p : Nat → Bool) (n0 : Nat), (∀ i, i < m → kd (a + i) = 2 → p (n0 + nmE (sqL kd a i)) = pt (a + i)) → pfS isT (vlT pt) L [] = some [CTk (sqL kd a m) n0 p]) ∧ (∃ g : Nat → Int32, h1 (o + 1 + 27) = some (.inl (0, 2100, .inl g)) ∧ ∀ q, q < L.length → g (420 * d + (cG kd a).2.length + q) = nI ((L.map (cvK kd th w)).getD q 0)) ∧ (∀ x ∈ L, (x = 50 ∨ x = 51) ∨ ∃ i, a ≤ i ∧ i < a + m ∧ x = 1000 + i ∧ kd i = 2 ∧ (zS (zz kd i) = 10 ∨ zS (zz kd i) = 11) ∧ zT (zz kd i) = zT (zz kd a)) ∧ (cG kd a).2.length + L.length ≤ 400 := by
  have hkd := hX0.1
  obtain ⟨L, e1, _⟩ := sem_end (pt := fun _ => false) (p := fun _ => false) (n := 0) hkd hX0.2.1 hs hW hm hi h12 h10 (fun _ _ _ => rfl)
  obtain ⟨M, e2⟩ := cG_pre (kd := kd) (show a + m + 1 ≤ N from hm)
  have hlen := (cG_w hkd (t := N) hX0.2.1).2.2.2
  have eN : (cG kd N).2 = (cG kd a).2 ++ (L ++ M) := by rw [e2, e1, List.append_assoc]
  have hl2 : (cG kd N).2.length = (cG kd a).2.length + (L.length + M.length) := by rw [eN, List.length_append, List.length_append]
  have at_ : ∀ q, q < L.length → (cG kd N).2.getD ((cG kd a).2.length + q) 0 = L.getD q 0 := fun q hq => by
    rw [eN, List.getD_eq_getElem?_getD, List.getElem?_append_right (by omega), Nat.add_sub_cancel_left, List.getElem?_append_left hq, List.getD_eq_getElem?_getD]
  refine ⟨L, e1, fun pt p n0 hp => ?_, ?_, fun x hx => ?_, by omega⟩
  · obtain ⟨L2, e3, e4⟩ := sem_end (pt := pt) (p := p) (n := n0) hkd hX0.2.1 hs hW hm hi h12 h10 hp
    rw [e1] at e3
    rw [List.append_cancel_left e3]
    exact e4
  · obtain ⟨g, g1, g2⟩ := hC
    refine ⟨g, g1, fun q hq => ?_⟩
    rw [Nat.add_assoc, g2 _ (by omega), at_ q hq]
    rw [List.getD_eq_getElem?_getD, List.getD_eq_getElem?_getD, List.getElem?_map, List.getElem?_eq_getElem hq]
    rfl
  · obtain ⟨q, hq, ex⟩ := List.mem_iff_getElem.mp hx
    have hx2 : (cG kd N).2.getD ((cG kd a).2.length + q) 0 = x := by
      rw [at_ q hq, List.getD_eq_getElem?_getD, List.getElem?_eq_getElem hq]
      exact ex
    rcases cG_at (kd := kd) N ((cG kd a).2.length + q) (by omega) with z | ⟨i, i1, i2, i3, i4, i5⟩
    · rw [hx2] at z
      exact Or.inl z
    · rw [hx2] at i2
      have hia : a ≤ i := by
        rcases Nat.lt_or_ge i a with y | y
        · have := (cG_of i3 i4 y).1
          omega
        · exact y
      have him : i < a + m := by
        rcases Nat.lt_or_ge i (a + m + 1) with y | y
        · by_cases c : i = a + m
          · rw [c] at i3; omega
          · omega
        · obtain ⟨M2, e5⟩ := cG_pre (kd := kd) y
          have : (cG kd i).2.length = (cG kd (a + m + 1)).2.length + M2.length := by rw [e5, List.length_append]
          have e6 : (cG kd (a + m + 1)).2.length = (cG kd a).2.length + L.length := by rw [e1, List.length_append]
          omega
      obtain ⟨s, hb, hs13, _⟩ := hX0.st i1
      have h3 : zS (zz kd i) = 10 ∨ zS (zz kd i) = 11 := by
        have := zB_2 hs13 (by rw [i3] at hb; exact ⟨s, hb⟩)
        omega
      have hT := (inC.z hkd hX0.2.1 hia (by omega) (fun q q1 q2 => hi q q1 (by omega))).1
      exact Or.inr ⟨i, hia, him, i2, i3, h3, hT⟩
theorem map_mem {cv : Nat → Nat} {L : List Nat} {k : Nat} (h : k ∈ L.map cv) : ∃ x ∈ L, k = cv x := by
  obtain ⟨x, a, b⟩ := List.mem_map.mp h
  exact ⟨x, a, b.symm⟩
set_option maxHeartbeats 16000000 in
theorem page_of {h0 h h1 : AH} {fs0 fs : List Value} {st5 : Nat → Bool} {k8 : Nat → Int32} (hu : ∀ i, u i < 256) (hS : BSt u n o d N h0 fs0 h fs N) (hN4 : N ≤ 400) (hX0 : TXT (kdN u n) N) (hd : d < 4) (hF : ∀ i, i < N → fX (kdN u n) (vaN u n) N i = 0) (hf : ∀ x, x ≠ o → x ≠ o + 1 + 20 → x ≠ o + 1 + 27 → h1 x = h x) (n1 : ∀ i, i < N → zS (zz (kdN u n) i) = 1 → nmI (zI (zz (kdN u n) i)) = vaN u n i) (n2 : ∀ i, i < N → zS (zz (kdN u n) i) = 3 → nmR (zR (zz (kdN u n) i)) = vaN u n i) (h20 : ∃ g20 : Nat → Int32, h1 (o + 1 + 20) = some (.inl (0, 200, .inl g20)) ∧ ∀ i, i < N → zC (zz (kdN u n) i) = true → kdN u n i = 2 → g20 (40 * d + zK (zz (kdN u n) i)) = thF nmI nmR (zI (zz (kdN u n) N)) (zR (zz (kdN u n) N)) (vaN u n i)) (hC : rwC h1 o (420 * d) (cvK (kdN u n) (fun i => thn nmI nmR (zI (zz (kdN u n) N)) (zR (zz (kdN u n) N)) (vaN u n i)) (wN (kdN u n) N)) (cG (kdN u n) N).2) (e8 : h0 (o + 1 + 8) = some (.inl (3, 25, .inl k8))) (hst : ∀ k, k < 5 → k8 (5 * d + k) = nI (st5 k).toNat) : MPg h1 o d (mkD (kdN u n) (vaN u n) N st5) ∧ MPx h1 o d (mkD (kdN u n) (vaN u n) N st5) := by
  have hkd := kdN_lt hu n
  have hE : ∀ i, i < N → eXz (kdN u n) (vaN u n) i = 0 := fun i hi => eXz_0 hX0 hi (hF i hi)
  obtain ⟨⟨wo, wp, M, W⟩, s1, s2, s3, s4, s5⟩ := hS
  obtain ⟨_, F, ⟨g18, g19, g21, g22, g29, g30, r18, r19, r21, r22, r29, r30, k1, k2, k3⟩, _⟩ := M
  obtain ⟨g7, g8, k8', g9, a7, a8, a9, a8', b7, b8, b9⟩ := s1
  obtain ⟨g10, g11, g12, a10, a11, a12, b10, b12, b11, b11'⟩ := s2
  obtain ⟨g13, g14, g15, a13, a14, a15, b13, b14⟩ := s3
  obtain ⟨g16, g17, a16, a17, b16, b17⟩ := s4
  obtain ⟨g23, g24, g25, g26, g28, a23, a24, a25, a26, a28, ct, cs⟩ := s5
  obtain ⟨g20, a20, b20⟩ := h20
  rw [e8] at a8'
  cases a8'
  have rr : ∀ j, j < 63 → j ≠ 20 → j ≠ 27 → h1 (o + 1 + j) = h (o + 1 + j) := fun j _ x1 x2 => hf _ (by omega) (by omega) (by omega)
  obtain ⟨g27, a27, q27⟩ := id hC
  obtain ⟨_, _, _, w4, w5, w6, w7, w8, _⟩ := hX0.w (Nat.le_refl N)
  have TH := th_same (vl := vaN u n) hX0 n1 n2
  -- things
  have thg : ∀ i, i < N → (zS (zz (kdN u n) i) = 10 ∨ zS (zz (kdN u n) i) = 11) → kdN u n i = 2 → thF nmI nmR (zI (zz (kdN u n) N)) (zR (zz (kdN u n) N)) (vaN u n i) = nI (thT (kdN u n) (vaN u n) N i) ∧ thn nmI nmR (zI (zz (kdN u n) N)) (zR (zz (kdN u n) N)) (vaN u n i) = thT (kdN u n) (vaN u n) N i ∧ (thT (kdN u n) (vaN u n) N i < zI (zz (kdN u n) N) ∨ (10 ≤ thT (kdN u n) (vaN u n) N i ∧ thT (kdN u n) (vaN u n) N i < 10 + zR (zz (kdN u n) N))) := fun i hi h10 hk => by
    obtain ⟨v, hv⟩ := named_c hX0 hF hi h10 hk
    have e := (TH (vaN u n i)).2.2 hE v hv
    have e2 : thT (kdN u n) (vaN u n) N i = thV (some v) := by
      unfold thT
      rw [hv]
    have hb := th_c hX0 hF hi h10 hk
    have e3 : thF nmI nmR (zI (zz (kdN u n) N)) (zR (zz (kdN u n) N)) (vaN u n i) = nI (thT (kdN u n) (vaN u n) N i) := by rw [e, e2]
    refine ⟨e3, ?_, hb⟩
    have nm1 : ∀ k, k < 100 → ¬ nI k = -1 := by decide
    unfold thn
    rw [e3, if_neg (nm1 _ (by omega)), nI_clamp (by omega)]
  -- what stands behind a = or if
  have cir : ∀ a, a < N → kdN u n a = 13 ∨ kdN u n a = 11 → ∃ m, cLc (kdN u n) N (a + 1) = m ∧ a + 1 + m < N ∧ inC (kdN u n) (a + 1) (a + 1 + m) ∧ kdN u n (a + 1 + m) = 12 ∧ zS (zz (kdN u n) (a + 1 + m)) = 12 ∧ zS (zz (kdN u n) (a + 1)) = 10 ∧ (cG (kdN u n) (a + 1)).1 = [] ∧ (∀ j, j ≤ m → zT (zz (kdN u n) (a + 1 + j)) = zT (zz (kdN u n) (a + 1)) ∧ zK (zz (kdN u n) (a + 1 + j)) = zK (zz (kdN u n) (a + 1)) + (if zT (zz (kdN u n) (a + 1)) = 10 then 0 else nmE (sqL (kdN u n) (a + 1) j))) := fun a ha hk => by
    obtain ⟨s, h1, h2, e, _⟩ := hX0.st ha
    have hlo : zS (zz (kdN u n) a) < 10 ∧ zS (zz (kdN u n) (a + 1)) = 10 ∧ zD (zz (kdN u n) (a + 1)) = 0 := by
      rcases hk with k13 | k11
      · obtain ⟨q1, q2, _, _, _, _, _, q8, _⟩ := hX0.q13 ha k13
        exact ⟨by omega, q2, q8⟩
      · have s9 := (zac h2 h1).2.2.2.2.2.2.2.2.2.2.2 k11
        obtain ⟨_, q2, _, _, _, _, q7⟩ := hX0.s9 ha s9
        exact ⟨by omega, q2, q7⟩
    obtain ⟨c1, c2, c3, c4, c5, c6⟩ := seg_c hX0 (show a + 1 ≤ N from ha) hlo.2.1 hlo.2.2
    refine ⟨_, rfl, c2, fun q q1 q2 => ?_, c3, c4, hlo.2.1, ?_, fun j hj => ⟨(c5 j hj).1, (c5 j hj).2.2.2.2.2.2⟩⟩
    · obtain ⟨j, rfl⟩ := Nat.exists_eq_add_of_le q1
      refine ⟨(c5 j (by omega)).2.2.2.2.2.1, ?_⟩
      have := c6 j (by omega)
      omega
    · rw [cG_n hlo.1]
      exact (cG_w hkd (t := a) (fun j hj => hX0.2.1 j (by omega))).2.2.1 hlo.1
  -- the circuits of relays and lamps
  have relM : ∀ c, c < 11 → cirB (zR (zz (kdN u n) N)) (zL (zz (kdN u n) N)) c = true → ∃ i m, i < N ∧ kdN u n i = 13 ∧ tkC (kdN u n) N c = i + 1 ∧ cN (zz (kdN u n) (i + 1)) = c ∧ zT (zz (kdN u n) (i + 1)) ≠ 10 ∧ cLc (kdN u n) N (i + 1) = m ∧ i + 1 + m < N ∧ inC (kdN u n) (i + 1) (i + 1 + m) ∧ kdN u n (i + 1 + m) = 12 ∧ zS (zz (kdN u n) (i + 1 + m)) = 12 ∧ zS (zz (kdN u n) (i + 1)) = 10 ∧ (cG (kdN u n) (i + 1)).1 = [] ∧ (∀ j, j ≤ m → zK (zz (kdN u n) (i + 1 + j)) = zK (zz (kdN u n) (i + 1)) + nmE (sqL (kdN u n) (i + 1) j)) := fun c hc hcb => by
    obtain ⟨i, i1, i2, i3⟩ := hX0.ex13 hcb
    obtain ⟨q1, q2, q3, q4, q5, q6, q7, q8, q9⟩ := hX0.q13 i1 i2
    obtain ⟨m, m1, m2, m3, m4, m5, m6, m7, m8⟩ := cir i i1 (Or.inl i2)
    have nT : zT (zz (kdN u n) (i + 1)) ≠ 10 := by
      rw [q3]
      rcases q9 with x | x <;> omega
    refine ⟨i, m, i1, i2, by rw [← i3]; exact tkC_c hX0 i1 i2, ?_, nT, m1, m2, m3, m4, m5, m6, m7, fun j hj => by rw [(m8 j hj).2, if_neg nT]⟩
    rw [← i3]
    unfold cN ownZ
    rw [q3, q4, q5]
    rcases q9 with ⟨x, _⟩ | ⟨x, _⟩
    · rw [if_pos x, if_pos x]
    · rw [if_neg (by omega), if_neg (by omega), if_neg (by omega)]
  have conK : ∀ k, k < zK (zz (kdN u n) N) → ∃ i, i < N ∧ zC (zz (kdN u n) i) = true ∧ kdN u n i = 2 ∧ zK (zz (kdN u n) i) = k ∧ tkK (kdN u n) N k = i := fun k hk => by
    obtain ⟨i, _, i1, i2, i3, i4, i5⟩ := exK (i0 := 0) (m := N) (k := k) hX0 (by omega) (Nat.zero_le _) (by rw [Nat.zero_add]; exact hk)
    exact ⟨i, by omega, i2, i3, i4, i5⟩
  have trk : ∀ i, i < 5 → g8 (5 * d + i) = nI (trT (kdN u n) N st5 i).toNat := fun k hk => by
    unfold trT
    by_cases c : k < zI (zz (kdN u n) N)
    · rw [if_pos c]
      obtain ⟨i, i1, i2, i3, i4, i5⟩ := exI hX0 c
      rw [i5, ← i4]
      exact (b8 i i1 i2).1
    · rw [if_neg c, b9 k (by omega) hk]
      exact hst k hk
  have hw0 : (cG (kdN u n) N).2.length ≤ 400 := by
    have := (cG_w hkd hX0.2.1).2.2.2
    omega
  have dgp : DG h1 o d (zK (zz (kdN u n) N)) (zR (zz (kdN u n) N)) (zL (zz (kdN u n) N)) (fun k => thT (kdN u n) (vaN u n) N (tkK (kdN u n) N k)) (fun k => decide (zS (zz (kdN u n) (tkK (kdN u n) N k)) = 11)) (trT (kdN u n) N st5) (fun c p => cirB (zR (zz (kdN u n) N)) (zL (zz (kdN u n) N)) c && CTk (sqL (kdN u n) (tkC (kdN u n) N c) (cLc (kdN u n) N (tkC (kdN u n) N c))) (zK (zz (kdN u n) (tkC (kdN u n) N c))) p) := by
    refine ⟨g8, g18, g20, g21, g10, g13, g23, g24, g27, (rr 8 (by decide) (by decide) (by decide)).trans a8, (rr 18 (by decide) (by decide) (by decide)).trans r18, a20, (rr 21 (by decide) (by decide) (by decide)).trans r21, (rr 10 (by decide) (by decide) (by decide)).trans a10, (rr 13 (by decide) (by decide) (by decide)).trans a13, (rr 23 (by decide) (by decide) (by decide)).trans a23, (rr 24 (by decide) (by decide) (by decide)).trans a24, a27, by omega, k1, w8, b10, w5, b13, w6, fun k hk => ?_, trk, fun c hc hcb => ?_⟩
    · obtain ⟨i, i1, i2, i3, i4, i5⟩ := conK k hk
      have h10 := (zC_S i2).1
      obtain ⟨t1, _, t3⟩ := thg i i1 h10 i3
      show g20 (40 * d + k) = nI (thT (kdN u n) (vaN u n) N (tkK (kdN u n) N k)) ∧ (thT (kdN u n) (vaN u n) N (tkK (kdN u n) N k) < 5 ∨ (10 ≤ thT (kdN u n) (vaN u n) N (tkK (kdN u n) N k) ∧ thT (kdN u n) (vaN u n) N (tkK (kdN u n) N k) < 16)) ∧ g21 (40 * d + k) = nI (decide (zS (zz (kdN u n) (tkK (kdN u n) N k)) = 11)).toNat
      rw [i5]
      refine ⟨?_, ?_, ?_⟩
      · rw [← i4, b20 i i1 i2 i3, t1]
      · omega
      · rw [← i4]; exact (k2 i i1 i2 i3).2.1
    · obtain ⟨i, m, i1, i2, i3, i4, i5, m1, m2, m3, m4, m5, m6, m7, m8⟩ := relM c hc hcb
      obtain ⟨c1, c2, _⟩ := ct i i1 (Or.inl i2)
      rw [i4] at c1 c2
      rw [m1] at c2
      obtain ⟨L, l1, l2, ⟨g, l3, l4⟩, l5, l6⟩ := seg_codes hX0 hN4 m2 m3 m4 (by omega) m6 m7 hC
      rw [a27] at l3
      cases l3
      have el : (cG (kdN u n) (i + 1 + m + 1)).2.length = (cG (kdN u n) (i + 1)).2.length + L.length := by rw [l1, List.length_append]
      have cvk : ∀ x ∈ L, ((x = 50 ∨ x = 51) ∧ cvK (kdN u n) (fun i => thn nmI nmR (zI (zz (kdN u n) N)) (zR (zz (kdN u n) N)) (vaN u n i)) (wN (kdN u n) N) x = x) ∨ ∃ j, i + 1 ≤ j ∧ j < i + 1 + m ∧ x = 1000 + j ∧ kdN u n j = 2 ∧ zC (zz (kdN u n) j) = true ∧ cvK (kdN u n) (fun i => thn nmI nmR (zI (zz (kdN u n) N)) (zR (zz (kdN u n) N)) (vaN u n i)) (wN (kdN u n) N) x = zK (zz (kdN u n) j) ∧ zK (zz (kdN u n) j) < zK (zz (kdN u n) N) := fun x hx => by
        rcases l5 x hx with z | ⟨j, j1, j2, rfl, j4, j5, j6⟩
        · refine Or.inl ⟨z, ?_⟩
          unfold cvK
          rw [if_pos (by omega)]
        · have zc := zC_of j5 (by rw [j6]; exact i5)
          refine Or.inr ⟨j, j1, j2, rfl, j4, zc, ?_, zK_lt hkd hX0.2.1 (show j < N by omega) zc j4⟩
          unfold cvK
          rw [if_neg (by omega), Nat.add_sub_cancel_left, if_neg (by rw [j6]; exact i5)]
      refine ⟨420 * d + (cG (kdN u n) (i + 1)).2.length, L.map (cvK (kdN u n) (fun i => thn nmI nmR (zI (zz (kdN u n) N)) (zR (zz (kdN u n) N)) (vaN u n i)) (wN (kdN u n) N)), c1, ?_, fun q hq => ?_, fun k hk => ?_, ?_, ?_, fun k hk4 hk => ?_, fun cl => ?_⟩
      · rw [c2, el, List.length_map, Nat.add_assoc]
      · rw [List.length_map] at hq
        exact l4 q hq
      · obtain ⟨x, x1, x2⟩ := map_mem hk
        rcases cvk x x1 with ⟨y, y2⟩ | ⟨j, _, _, _, _, _, y2, y3⟩ <;> omega
      · rw [List.length_map]; omega
      · rw [List.length_map]; omega
      · obtain ⟨x, x1, x2⟩ := map_mem hk
        rcases cvk x x1 with ⟨y, y2⟩ | ⟨j, _, _, _, _, _, y2, y3⟩ <;> omega
      · show pfS (fun k => decide (k < 40)) cl _ [] = some [cirB (zR (zz (kdN u n) N)) (zL (zz (kdN u n) N)) c && CTk (sqL (kdN u n) (tkC (kdN u n) N c) (cLc (kdN u n) N (tkC (kdN u n) N c))) (zK (zz (kdN u n) (tkC (kdN u n) N c))) cl]
        rw [hcb, Bool.true_and, i3, m1]
        rw [pfS_map (isL := isT) (vl := vlT (fun j => cl (zK (zz (kdN u n) j)))) L [] (fun x hx => ?_)]
        · refine l2 _ _ _ (fun j hj hk => ?_)
          show cl (zK (zz (kdN u n) (i + 1)) + nmE (sqL (kdN u n) (i + 1) j)) = cl (zK (zz (kdN u n) (i + 1 + j)))
          rw [m8 j (by omega)]
        · rcases cvk x hx with ⟨y, y2⟩ | ⟨j, _, _, rfl, _, _, y2, y3⟩
          · rw [y2]
            refine ⟨?_, fun z => ?_, fun _ => Iff.rfl⟩
            · show decide (x < 40) = decide (1000 ≤ x)
              rw [decide_eq_false (by omega), decide_eq_false (by omega)]
            · have := of_decide_eq_true z
              omega
          · rw [y2]
            refine ⟨?_, fun _ => ?_, fun z => ?_⟩
            · show decide (zK (zz (kdN u n) j) < 40) = decide (1000 ≤ 1000 + j)
              rw [decide_eq_true (by omega), decide_eq_true (by omega)]
            · show cl (zK (zz (kdN u n) j)) = cl (zK (zz (kdN u n) (1000 + j - 1000)))
              rw [Nat.add_sub_cancel_left]
            · have := of_decide_eq_false z
              omega
  have who : WHO h1 o d (zK (zz (kdN u n) N)) (fun k => ownZ (zz (kdN u n) (tkK (kdN u n) N k))) := by
    refine ⟨g19, (rr 19 (by decide) (by decide) (by decide)).trans r19, fun k hk => ?_⟩
    obtain ⟨i, i1, i2, i3, i4, i5⟩ := conK k hk
    show g19 (40 * d + k) = nI (if ownZ (zz (kdN u n) (tkK (kdN u n) N k)) < 6 then ownZ (zz (kdN u n) (tkK (kdN u n) N k)) else ownZ (zz (kdN u n) (tkK (kdN u n) N k)) + 4) ∧ ownZ (zz (kdN u n) (tkK (kdN u n) N k)) < 11
    rw [i5]
    obtain ⟨o1, _⟩ := own_c hX0 i1 i2
    refine ⟨?_, o1⟩
    rw [← i4, (k2 i i1 i2 i3).1]
    have wR := (hX0.w (show i ≤ N by omega)).2.2.2.2.1
    unfold mOw ownZ
    by_cases c : zT (zz (kdN u n) i) = 6
    · rw [if_pos c, if_pos c, if_pos (by
        unfold ownZ at o1
        rw [if_pos c] at o1
        omega)]
    · rw [if_neg c, if_neg c, if_neg (by omega), show 6 + (zL (zz (kdN u n) i) - 1) + 4 = 10 + (zL (zz (kdN u n) i) - 1) by omega]
  have nvE : ∀ k, k < zV (zz (kdN u n) N) → ∃ i m, i + 2 < N ∧ zS (zz (kdN u n) i) = 8 ∧ zV (zz (kdN u n) i) = k + 1 ∧ tkX (kdN u n) N k = i ∧ tkV (kdN u n) N k = i + 2 ∧ kdN u n (i + 1) = 11 ∧ cN (zz (kdN u n) (i + 2)) = 11 + k ∧ zT (zz (kdN u n) (i + 2)) = 10 ∧ cLc (kdN u n) N (i + 2) = m ∧ i + 2 + m < N ∧ inC (kdN u n) (i + 2) (i + 2 + m) ∧ kdN u n (i + 2 + m) = 12 ∧ zS (zz (kdN u n) (i + 2 + m)) = 12 ∧ zS (zz (kdN u n) (i + 2)) = 10 ∧ (cG (kdN u n) (i + 2)).1 = [] := fun k hk => by
    obtain ⟨i, i1, i2, i3, i4, i5, i6, i7, i8, i9, i10⟩ := exX hX0 hk
    obtain ⟨q1, q2, q3, q4, q5, q6, _⟩ := hX0.s9 i1 i7
    obtain ⟨m, m1, m2, m3, m4, m5, m6, m7, _⟩ := cir (i + 1) i1 (Or.inr q1)
    have v1 : zV (zz (kdN u n) (i + 2)) = k + 1 := by
      have := (hX0.s8 (show i < N by omega) i2).2.2.1
      rw [show i + 2 = i + 1 + 1 from rfl, q3, this, i4]
    refine ⟨i, m, by omega, i2, i4, i5, i6, q1, ?_, i9, m1, m2, m3, m4, m5, m6, m7⟩
    unfold cN
    rw [i9, if_neg (by decide), if_pos rfl, v1, Nat.add_sub_cancel]
  have dnp : DN h1 o d (zV (zz (kdN u n) N)) (fun k => (zG (kdN u n) (vaN u n) (toL (kdN u n) N) (vaN u n (tkX (kdN u n) N k))).getD 0) (trT (kdN u n) N st5) (NVt (kdN u n) (vaN u n) N (trT (kdN u n) N st5)) := by
    refine ⟨g16, g17, g8, g23, g24, g27, (rr 16 (by decide) (by decide) (by decide)).trans a16, (rr 17 (by decide) (by decide) (by decide)).trans a17, (rr 8 (by decide) (by decide) (by decide)).trans a8, (rr 23 (by decide) (by decide) (by decide)).trans a23, (rr 24 (by decide) (by decide) (by decide)).trans a24, a27, by omega, b16, w7, trk, fun k hk => ?_⟩
    obtain ⟨i, m, i1, i2, i3, i4, i5, i6, i7, i8, m1, m2, m3, m4, m5, m6, m7⟩ := nvE k hk
    obtain ⟨c1, c2, _⟩ := ct (i + 1) (by omega) (Or.inr i6)
    have c1 : g23 (17 * d + cN (zz (kdN u n) (i + 2))) = nI (420 * d + (cG (kdN u n) (i + 2)).2.length) := c1
    have c2 : g24 (17 * d + cN (zz (kdN u n) (i + 2))) = nI (420 * d + (cG (kdN u n) (i + 2 + cLc (kdN u n) N (i + 2) + 1)).2.length) := c2
    rw [i7, ← Nat.add_assoc] at c1 c2
    rw [m1] at c2
    obtain ⟨t0, g0, p1, p2, p3, p4, p5, p6, p7, p8⟩ := green_c hX0 hF (show i < N by omega) i2
    have gl := b17 i (by omega) i2 (fun j hj => hE j (by omega))
    rw [i3, Nat.add_sub_cancel, p7] at gl
    show g17 (6 * d + k) = nI ((zG (kdN u n) (vaN u n) (toL (kdN u n) N) (vaN u n (tkX (kdN u n) N k))).getD 0) ∧ (zG (kdN u n) (vaN u n) (toL (kdN u n) N) (vaN u n (tkX (kdN u n) N k))).getD 0 < 5 ∧ _
    rw [i4, p8]
    refine ⟨gl, by show g0 < 5; omega, ?_⟩
    obtain ⟨L, l1, l2, ⟨g, l3, l4⟩, l5, l6⟩ := seg_codes hX0 hN4 m2 m3 m4 (by omega) m6 m7 hC
    rw [a27] at l3
    cases l3
    have el : (cG (kdN u n) (i + 2 + m + 1)).2.length = (cG (kdN u n) (i + 2)).2.length + L.length := by rw [l1, List.length_append]
    have cvk : ∀ x ∈ L, ((x = 50 ∨ x = 51) ∧ cvK (kdN u n) (fun i => thn nmI nmR (zI (zz (kdN u n) N)) (zR (zz (kdN u n) N)) (vaN u n i)) (wN (kdN u n) N) x = x) ∨ ∃ j, i + 2 ≤ j ∧ j < i + 2 + m ∧ x = 1000 + j ∧ kdN u n j = 2 ∧ cvK (kdN u n) (fun i => thn nmI nmR (zI (zz (kdN u n) N)) (zR (zz (kdN u n) N)) (vaN u n i)) (wN (kdN u n) N) x = 60 + (decide (zS (zz (kdN u n) j) = 11)).toNat + 2 * thT (kdN u n) (vaN u n) N j ∧ (thT (kdN u n) (vaN u n) N j < zI (zz (kdN u n) N) ∨ (10 ≤ thT (kdN u n) (vaN u n) N j ∧ thT (kdN u n) (vaN u n) N j < 10 + zR (zz (kdN u n) N))) ∧ (decide (zS (zz (kdN u n) j) = 11)).toNat < 2 := fun x hx => by
      rcases l5 x hx with z | ⟨j, j1, j2, rfl, j4, j5, j6⟩
      · refine Or.inl ⟨z, ?_⟩
        unfold cvK
        rw [if_pos (by omega)]
      · have wq := wQ_mk j4 j5 (j6.trans i8)
        obtain ⟨_, t2, t3⟩ := thg j (by omega) j5 j4
        refine Or.inr ⟨j, j1, j2, rfl, j4, ?_, t3, by cases decide (zS (zz (kdN u n) j) = 11) <;> decide⟩
        unfold cvK
        rw [if_neg (by omega), Nat.add_sub_cancel_left, if_pos (j6.trans i8), if_pos (wN_lt wq (show j < N by omega))]
        show 60 + (decide (zS (zz (kdN u n) j) = 11)).toNat + 2 * thn nmI nmR (zI (zz (kdN u n) N)) (zR (zz (kdN u n) N)) (vaN u n j) = _
        rw [t2]
    refine ⟨420 * d + (cG (kdN u n) (i + 2)).2.length, L.map (cvK (kdN u n) (fun i => thn nmI nmR (zI (zz (kdN u n) N)) (zR (zz (kdN u n) N)) (vaN u n i)) (wN (kdN u n) N)), c1, ?_, fun q hq => ?_, fun x hx => ?_, ?_, ?_, fun x hx6 hx => ?_, fun on up => ?_⟩
    · rw [c2, el, List.length_map, Nat.add_assoc]
    · rw [List.length_map] at hq
      exact l4 q hq
    · obtain ⟨y, y1, y2⟩ := map_mem hx
      rcases cvk y y1 with ⟨z, z2⟩ | ⟨j, _, _, _, _, z2, z3, z4⟩ <;> omega
    · rw [List.length_map]; omega
    · rw [List.length_map]; omega
    · obtain ⟨y, y1, y2⟩ := map_mem hx
      rcases cvk y y1 with ⟨z, z2⟩ | ⟨j, _, _, _, _, z2, z3, z4⟩ <;> omega
    · show _ = some [CTk (sqL (kdN u n) (tkV (kdN u n) N k) (cLc (kdN u n) N (tkV (kdN u n) N k))) 0 (fun j => thv (trT (kdN u n) N st5) on up (thT (kdN u n) (vaN u n) N ((nmL (kdN u n) (tkV (kdN u n) N k) (cLc (kdN u n) N (tkV (kdN u n) N k))).getD j 0)) ^^ decide (zS (zz (kdN u n) ((nmL (kdN u n) (tkV (kdN u n) N k) (cLc (kdN u n) N (tkV (kdN u n) N k))).getD j 0)) = 11))]
      rw [i5, m1]
      rw [pfS_map (isL := isT) (vl := vlT (fun j => thv (trT (kdN u n) N st5) on up (thT (kdN u n) (vaN u n) N j) ^^ decide (zS (zz (kdN u n) j) = 11))) L [] (fun x hx => ?_)]
      · refine l2 _ _ _ (fun j hj hk => ?_)
        show (thv (trT (kdN u n) N st5) on up (thT (kdN u n) (vaN u n) N ((nmL (kdN u n) (i + 2) m).getD (0 + nmE (sqL (kdN u n) (i + 2) j)) 0)) ^^ decide (zS (zz (kdN u n) ((nmL (kdN u n) (i + 2) m).getD (0 + nmE (sqL (kdN u n) (i + 2) j)) 0)) = 11)) = _
        rw [Nat.zero_add, nmL_at hk m hj]
      · rcases cvk x hx with ⟨y, y2⟩ | ⟨j, _, _, rfl, _, y2, y3, y4⟩
        · rw [y2]
          refine ⟨?_, fun z => ?_, fun _ => Iff.rfl⟩
          · show decide (60 ≤ x) = decide (1000 ≤ x)
            rw [decide_eq_false (by omega), decide_eq_false (by omega)]
          · have := of_decide_eq_true z
            omega
        · rw [y2]
          refine ⟨?_, fun _ => ?_, fun z => ?_⟩
          · show decide (60 ≤ 60 + (decide (zS (zz (kdN u n) j) = 11)).toNat + 2 * thT (kdN u n) (vaN u n) N j) = decide (1000 ≤ 1000 + j)
            rw [decide_eq_true (by omega), decide_eq_true (by omega)]
          · show (thv (trT (kdN u n) N st5) on up ((60 + (decide (zS (zz (kdN u n) j) = 11)).toNat + 2 * thT (kdN u n) (vaN u n) N j - 60) / 2) ^^ decide ((60 + (decide (zS (zz (kdN u n) j) = 11)).toNat + 2 * thT (kdN u n) (vaN u n) N j) % 2 = 1)) = (thv (trT (kdN u n) N st5) on up (thT (kdN u n) (vaN u n) N (1000 + j - 1000)) ^^ decide (zS (zz (kdN u n) (1000 + j - 1000)) = 11))
            rw [Nat.add_sub_cancel_left, show (60 + (decide (zS (zz (kdN u n) j) = 11)).toNat + 2 * thT (kdN u n) (vaN u n) N j - 60) / 2 = thT (kdN u n) (vaN u n) N j by omega]
            by_cases c : zS (zz (kdN u n) j) = 11
            · rw [decide_eq_true c, decide_eq_true (show (60 + true.toNat + 2 * thT (kdN u n) (vaN u n) N j) % 2 = 1 by show (60 + 1 + 2 * thT (kdN u n) (vaN u n) N j) % 2 = 1; omega)]
            · rw [decide_eq_false c, decide_eq_false (show ¬ (60 + false.toNat + 2 * thT (kdN u n) (vaN u n) N j) % 2 = 1 by show ¬ (60 + 0 + 2 * thT (kdN u n) (vaN u n) N j) % 2 = 1; omega)]
          · have := of_decide_eq_false z
            omega
  refine ⟨⟨dgp, who, dnp, ⟨g7, (rr 7 (by decide) (by decide) (by decide)).trans a7, b7⟩, ⟨g11, (rr 11 (by decide) (by decide) (by decide)).trans a11, fun r hr => ?_⟩, ⟨g14, (rr 14 (by decide) (by decide) (by decide)).trans a14, fun k hk => ?_⟩, ⟨⟨g9, (rr 9 (by decide) (by decide) (by decide)).trans a9, fun k hk => ?_⟩, ⟨g12, (rr 12 (by decide) (by decide) (by decide)).trans a12, fun k hk => ?_⟩, ⟨g15, (rr 15 (by decide) (by decide) (by decide)).trans a15, fun k hk => ?_⟩, g25, g26, g28, (rr 25 (by decide) (by decide) (by decide)).trans a25, (rr 26 (by decide) (by decide) (by decide)).trans a26, (rr 28 (by decide) (by decide) (by decide)).trans a28, fun c hc hcb => ?_⟩, by omega⟩, ⟨g23, g24, g25, g26, (rr 23 (by decide) (by decide) (by decide)).trans a23, (rr 24 (by decide) (by decide) (by decide)).trans a24, (rr 25 (by decide) (by decide) (by decide)).trans a25, (rr 26 (by decide) (by decide) (by decide)).trans a26, fun c hc hcb => ?_, fun k hk => ?_⟩⟩
  · show g11 (6 * d + r) = nI (slT (kdN u n) (vaN u n) N r)
    have hr : r < zR (zz (kdN u n) N) := hr
    by_cases c : ∃ i, i < N ∧ zS (zz (kdN u n) i) = 5 ∧ zR (zz (kdN u n) i) = r + 1
    · obtain ⟨i, i1, i2, i3⟩ := c
      have := b11 i i1 i2
      rw [i3, Nat.add_sub_cancel] at this
      rw [this, slT_c hX0 i1 i2 i3]
    · have hno : ∀ i, i < N → zS (zz (kdN u n) i) = 5 → zR (zz (kdN u n) i) ≠ r + 1 := fun i i1 i2 i3 => c ⟨i, i1, i2, i3⟩
      rw [b11' r hr hno, slT_0 hno]
  · show g14 (5 * d + k) = nI (decide (zT (zz (kdN u n) (tkL (kdN u n) N k)) = 9)).toNat
    obtain ⟨i, i1, i2, i3, i4, i5⟩ := exL hX0 (show k < zL (zz (kdN u n) N) from hk)
    rw [i5, ← i4]
    exact (b14 i i1 i2).1
  · show g9 (5 * d + k) = vaN u n (tkI (kdN u n) N k)
    obtain ⟨i, i1, i2, i3, i4, i5⟩ := exI hX0 (show k < zI (zz (kdN u n) N) from hk)
    rw [i5, ← i4]
    exact (b8 i i1 i2).2
  · show g12 (6 * d + k) = vaN u n (tkR (kdN u n) N k)
    obtain ⟨i, i1, i2, i3, i4, i5⟩ := exR hX0 (show k < zR (zz (kdN u n) N) from hk)
    rw [i5, ← i4]
    exact b12 i i1 i2
  · show g15 (5 * d + k) = vaN u n (tkL (kdN u n) N k)
    obtain ⟨i, i1, i2, i3, i4, i5⟩ := exL hX0 (show k < zL (zz (kdN u n) N) from hk)
    rw [i5, ← i4]
    exact (b14 i i1 i2).2
  · obtain ⟨i, m, i1, i2, i3, i4, i5, m1, m2, m3, m4, m5, m6, m7, m8⟩ := relM c hc hcb
    obtain ⟨_, _, c3, c4⟩ := ct i i1 (Or.inl i2)
    rw [i4] at c3 c4
    rw [m1, gCn_in m3 m (Nat.le_refl m), ← Nat.add_assoc] at c4
    have hl := gCn_le (kdN u n) (i + 1 + m)
    rw [gCn_in m3 m (Nat.le_refl m)] at hl
    show ∃ a, g25 (17 * d + c) = nI a ∧ g26 (17 * d + c) = nI (a + (sqL (sgT (kdN u n) (vaN u n)) (tkC (kdN u n) N c) (cLc (kdN u n) N (tkC (kdN u n) N c))).length) ∧ a + (sqL (sgT (kdN u n) (vaN u n)) (tkC (kdN u n) N c) (cLc (kdN u n) N (tkC (kdN u n) N c))).length ≤ 2100 ∧ ∀ q, q < (sqL (sgT (kdN u n) (vaN u n)) (tkC (kdN u n) N c) (cLc (kdN u n) N (tkC (kdN u n) N c))).length → g28 (a + q) = (sqL (sgT (kdN u n) (vaN u n)) (tkC (kdN u n) N c) (cLc (kdN u n) N (tkC (kdN u n) N c))).getD q 0
    rw [i3, m1, sqL_len]
    refine ⟨_, c3, c4, by omega, fun q hq => ?_⟩
    rw [sqL_at _ _ m _ q hq, Nat.add_assoc, ← gCn_in m3 q (by omega)]
    obtain ⟨h1, h2⟩ := m3 (i + 1 + q) (by omega) (by omega)
    exact cs (i + 1 + q) (by omega) h1 h2
  · obtain ⟨i, m, i1, i2, i3, i4, i5, m1, m2, m3, m4, m5, m6, m7, m8⟩ := relM c hc hcb
    obtain ⟨c1, c2, c3, c4⟩ := ct i i1 (Or.inl i2)
    rw [i4] at c1 c2 c3 c4
    have hl := gCn_le (kdN u n) (i + 1 + cLc (kdN u n) N (i + 1))
    have hl2 := (cG_w hkd (t := i + 1 + cLc (kdN u n) N (i + 1) + 1) (fun j hj => hX0.2.1 j (by omega))).2.2.2
    exact ⟨_, _, c1, c2, by omega, _, _, c3, c4, by omega⟩
  · obtain ⟨i, m, i1, i2, i3, i4, i5, i6, i7, i8, m1, m2, m3, m4, m5, m6, m7⟩ := nvE k hk
    obtain ⟨c1, c2, _⟩ := ct (i + 1) (by omega) (Or.inr i6)
    have c1 : g23 (17 * d + cN (zz (kdN u n) (i + 2))) = nI (420 * d + (cG (kdN u n) (i + 2)).2.length) := c1
    have c2 : g24 (17 * d + cN (zz (kdN u n) (i + 2))) = nI (420 * d + (cG (kdN u n) (i + 2 + cLc (kdN u n) N (i + 2) + 1)).2.length) := c2
    rw [i7, ← Nat.add_assoc] at c1 c2
    have hl2 := (cG_w hkd (t := i + 2 + cLc (kdN u n) N (i + 2) + 1) (fun j hj => hX0.2.1 j (by omega))).2.2.2
    exact ⟨_, _, c1, c2, by omega⟩
end PGM
