/-! x's leastTest -/
theorem q_ne {x nx qa qb : Nat} (h1 : x < nx) (h2 : x ≠ qa) (h : qb = qa ∨ nx ≤ qb) : x ≠ qb := by omega
theorem q_tr {qa qb qc nx nx3 : Nat} (h : qb = qa ∨ nx ≤ qb) (h2 : qc = qb ∨ nx3 ≤ qc) (h3 : nx ≤ nx3) : qc = qa ∨ nx ≤ qc := by omega
theorem encT_some {D : DD} {f k i v : Nat} {S : BS} (hw : WD D) (hI : TIn D f S) (hk : k < S.1) (hi : i < dI D) (hv : encN v (tD S k + 1) (tActs S k i)) : encT (lN v) (some (tD S k + 1, tActs S k i)) := by
  refine ⟨v, rfl, hv, fun j hj => ?_⟩
  have h5 := hw.i
  have hj2 : j < tD S k + 1 := hj
  show tActs S k i j < 5
  unfold tActs
  split
  · omega
  · next hne =>
    have hb : ∀ m at_, at_ < S.1 → m < tD S at_ → 0 < bkF (fun a => (S.2.2.1 a).1) m at_ ∧ bkF (fun a => (S.2.2.1 a).1) m at_ < S.1 := by
      intro m
      induction m with
      | zero =>
        intro at_ ha hm
        exact ⟨(tD_pos hI ha hm).1, ha⟩
      | succ m ih =>
        intro at_ ha hm
        obtain ⟨p0, p1⟩ := tD_pos hI ha (by omega)
        have := hI.fr at_ p0 ha
        exact ih (S.2.2.1 at_).1 (by omega) (by omega)
    obtain ⟨b1, b2⟩ := hb (tD S k - 1 - j) k hk (by omega)
    have := (hI.2.1 _ b1 b2).2.1
    omega
set_option maxHeartbeats 8000000 in
theorem x_leastTest {l : Launch} {G : GG} {h : AH} {nx : Nat} {Post : Option Value → AH → Nat → Prop} {o w tl c t vb i q0 : Nat} {fp ah sc : Int32} {da : Nat → Nat} {dd : Nat → DD} {kn : Nat → Bool} (hX : XC G ∧ TX l G) (hA : XA h o w tl fp c ah da dd) (hH : XH h w c da dd vb) (hS : XS2 h w c da dd vb) (hT : TRq h w nx c da q0) (hO : FO h (da t) sc) (hL : FLk h (da t) (dd t) kn) (ht : t < c) (hv : vb + 1 < 2 ^ 31) (hi : i < (flL (dd t)).length) (hP : ∀ (h1 : AH) (nx1 : Nat) (x : Int64), nx ≤ nx1 → XH h1 w c da dd (vb + 1) → XS2 h1 w c da dd (vb + 1) → TRq h1 w nx1 c da (tcap q0 kn (dd t) i) → FLk h1 (da t) (dd t) (upB kn i) → encT x (ltR (dd t) ((flL (dd t)).getD i 0)) → FWl h h1 w c da (da t + 24) (da t + 26) → Post (some (.long x)) h1 nx1) : Runs l G i_X9_leastTest (gC (tcap q0 kn (dd t) i) - gC q0) (gS (tcap q0 kn (dd t) i) - gS q0) [.ref (w + 52), .ref (da t), .int (nI i)] h nx Post := by
  have hdt : isDr w c da dd (da t) (dd t) := Or.inr ⟨t, ht, rfl, rfl⟩
  have hlo : w + 137 ≤ da t := (hA.2.2.2.2.1 t ht).2.2
  obtain ⟨hD, hw, _⟩ := hdt.xd hA
  have hl := flL_len hw
  have hi5 := hw.i
  obtain ⟨cc, g2, g3, g4, g5, g10, g13, g14, g16, g17, g18, g19, g27, g28, g1, g11, g12, d0, _⟩ := id hD
  obtain ⟨kg, lp, e24, e25, kl⟩ := hL
  obtain ⟨qa, tn, gq, gb, tO_, tq_, tb_, tQ, hqv, tdis, tnx⟩ := hT
  obtain ⟨Q1, Q2, Q3⟩ := id tQ
  have hf := flL_ok hw hi
  have hflt := flL_lt hw hi
  have tdt := tdis t ht
  have tnt := tnx t ht
  have hq256 : 256 ≤ q0 := by unfold QV at hqv; omega
  refine en_X9_leastTest hX [86, 180] 60 rfl ?_
  refine Exists.intro _ (And.intro d0 (Exists.intro _ (And.intro rfl ?_)))
  refine And.intro (fun cz => absurd cz (nI_pos (by omega))) (fun _ => ?_)
  refine And.intro (fun _ => ?_) (fun cz => absurd (nI_lt (a := i) (b := 132) (by omega) (by decide)) cz)
  refine Exists.intro _ (And.intro hO (Exists.intro _ (And.intro rfl ?_)))
  refine Exists.intro 2 (Exists.intro _ (Exists.intro _ (And.intro e24 (And.intro (Or.inl rfl) (And.intro (vp_in_nI (by omega) (by decide)) ?_)))))
  rw [nI_clamp (show i < 2 ^ 31 by omega), (kl i hi).1]
  cases hkn : kn i with
  | true =>
    refine And.intro (fun cz => by first | exact absurd cz (by decide) | exact absurd (by decide) cz) (fun _ => ?_)
    refine Exists.intro _ (And.intro hO (Exists.intro _ (And.intro rfl ?_)))
    refine Exists.intro _ (Exists.intro _ (And.intro e25 (And.intro (vp_in_nI (by omega) (by decide)) ?_)))
    rw [nI_clamp (show i < 2 ^ 31 by omega)]
    have e1 : tcap q0 kn (dd t) i = q0 := if_pos hkn
    have e2 : upB kn i = kn := by
      funext j
      unfold upB
      split
      · next e => rw [e, hkn]
      · rfl
    rw [e1, e2] at hP
    exact hP h nx (lp i) (Nat.le_refl _) (hH.le (by omega)) (hS.le (by omega)) ⟨qa, tn, gq, gb, tO_, tq_, tb_, tQ, hqv, tdis, tnx⟩ ⟨kg, lp, e24, e25, kl⟩ ((kl i hi).2 hkn) (fun _ _ _ => rfl)
  | false =>
    have ecap : tcap q0 kn (dd t) i = capF q0 (tRes (dd t) ((flL (dd t)).getD i 0)).2.1 := if_neg (by rw [hkn]; decide)
    rw [ecap] at hP
    rw [ecap]
    refine And.intro (fun _ => ?_) (fun cz => by first | exact absurd cz (by decide) | exact absurd (by decide) cz)
    refine Exists.intro _ (And.intro hO (Exists.intro _ (And.intro rfl ?_)))
    refine Exists.intro 2 (Exists.intro _ (Exists.intro _ (And.intro e24 (And.intro (Or.inl rfl) (And.intro (vp_in_nI (by omega) (by decide)) ?_)))))
    rw [nI_clamp (show i < 2 ^ 31 by omega)]
    refine Exists.intro _ (And.intro ((uph_ne (by omega)).trans hO) (Exists.intro _ (And.intro rfl ?_)))
    refine Exists.intro _ (Exists.intro _ (And.intro ((uph_ne (by omega)).trans e25) (And.intro (vp_in_nI (by omega) (by decide)) ?_)))
    rw [nI_clamp (show i < 2 ^ 31 by omega)]
    have fr0 : ∀ x, x ≠ da t + 24 → x ≠ da t + 25 → (uph (uph h (da t + 24) (.inl (2, 132, .inl (upd kg i (vp_nar (TY 2) 1))))) (da t + 25) (.inl (1, 132, .inr (.inl (vp_updL lp i (-1)))))) x = h x := fun x x1 x2 => by rw [uph_ne x2, uph_ne x1]
    have hA0 : XA (uph (uph h (da t + 24) (.inl (2, 132, .inl (upd kg i (vp_nar (TY 2) 1))))) (da t + 25) (.inl (1, 132, .inr (.inl (vp_updL lp i (-1)))))) o w tl fp c ah da dd := hA.fn ht (fun x _ x2 => fr0 x (by omega) (by omega))
    have hH0 : XH (uph (uph h (da t + 24) (.inl (2, 132, .inl (upd kg i (vp_nar (TY 2) 1))))) (da t + 25) (.inl (1, 132, .inr (.inl (vp_updL lp i (-1)))))) w c da dd vb := hH.ag (fun x _ _ => fr0 x (by omega) (by omega))
    have hS0 : XS2 (uph (uph h (da t + 24) (.inl (2, 132, .inl (upd kg i (vp_nar (TY 2) 1))))) (da t + 25) (.inl (1, 132, .inr (.inl (vp_updL lp i (-1)))))) w c da dd vb := hS.ag (fun x _ _ => fr0 x (by omega) (by omega))
    have tO0 : TO (uph (uph h (da t + 24) (.inl (2, 132, .inl (upd kg i (vp_nar (TY 2) 1))))) (da t + 25) (.inl (1, 132, .inr (.inl (vp_updL lp i (-1)))))) w qa tn := (fr0 _ (by omega) (by omega)).trans tO_
    have e24a : (uph (uph h (da t + 24) (.inl (2, 132, .inl (upd kg i (vp_nar (TY 2) 1))))) (da t + 25) (.inl (1, 132, .inr (.inl (vp_updL lp i (-1)))))) (da t + 24) = some (.inl (2, 132, .inl (upd kg i (vp_nar (TY 2) 1)))) := (uph_ne (by omega)).trans uph_eq
    have e25a : (uph (uph h (da t + 24) (.inl (2, 132, .inl (upd kg i (vp_nar (TY 2) 1))))) (da t + 25) (.inl (1, 132, .inr (.inl (vp_updL lp i (-1)))))) (da t + 25) = some (.inl (1, 132, .inr (.inl (vp_updL lp i (-1))))) := uph_eq
    have hO0 : FO (uph (uph h (da t + 24) (.inl (2, 132, .inl (upd kg i (vp_nar (TY 2) 1))))) (da t + 25) (.inl (1, 132, .inr (.inl (vp_updL lp i (-1)))))) (da t) sc := hO.ag (fr0 _ (by omega) (by omega))
    have d00 := (fr0 (da t) (by omega) (by omega)).trans d0
    have hD0 : XD (uph (uph h (da t + 24) (.inl (2, 132, .inl (upd kg i (vp_nar (TY 2) 1))))) (da t + 25) (.inl (1, 132, .inr (.inl (vp_updL lp i (-1)))))) (da t) (dd t) := (hdt.xd hA0).1
    revert hA0 hH0 hS0 tO0 e24a e25a hO0 d00 hD0 fr0
    generalize (uph (uph h (da t + 24) (.inl (2, 132, .inl (upd kg i (vp_nar (TY 2) 1))))) (da t + 25) (.inl (1, 132, .inr (.inl (vp_updL lp i (-1)))))) = h0
    intro fr0 hA0 hH0 hS0 tO0 e24a e25a hO0 d00 hD0
    refine Exists.intro _ (And.intro d00 (Exists.intro 0 (Exists.intro 0 (And.intro (by omega) (And.intro (by omega) (x_flawAt hX hD0 hw ?_))))))
    rw [show aFlaw (dd t) (nI i) = nI ((flL (dd t)).getD i 0) from by unfold aFlaw; rw [if_pos ⟨nI_pos' (by omega), nI_lt hi (by omega)⟩, nI_clamp (by omega)]]
    refine Exists.intro _ (And.intro tO0 (Exists.intro 0 (Exists.intro 0 (And.intro (by omega) (And.intro (by omega) (x_prepBoth hX hA0 hH0 hS0 tO0 ht hf hv (fun h1 v0 v1 y1 y2 y3 y4 => ?_)))))))
    have tO1 : TO h1 w qa tn := (y1 _ (by omega)).trans tO0
    have hO1 : FO h1 (da t) sc := hO0.ag (y1 _ (by omega))
    have e24b := (y1 (da t + 24) (by omega)).trans e24a
    have e25b := (y1 (da t + 25) (by omega)).trans e25a
    have fr1 : ∀ x, (x < w + 43 ∨ (w + 45 ≤ x ∧ x < w + 53) ∨ w + 55 ≤ x) → x ≠ da t + 24 → x ≠ da t + 25 → h1 x = h x := fun x a1 a2 a3 => (y1 x a1).trans (fr0 x a2 a3)
    refine Exists.intro _ (And.intro tO1 (Exists.intro 0 (Exists.intro 0 (And.intro (by omega) (And.intro (by omega) (x_beginSearch (gq := gq) (gb := gb) hX y2 tO1 ((fr1 _ (by omega) (by omega) (by omega)).trans tq_) ((fr1 _ (by omega) (by omega) (by omega)).trans tb_) tQ tnt tdt hw hf hlo hqv (fun h2 nx2 qa2 z1 z2 z3 z4 => ?_)))))))
    have hTF : (tL0 (dd t) ((flL (dd t)).getD i 0) = 0 → TIn (dd t) ((flL (dd t)).getD i 0) (tRes (dd t) ((flL (dd t)).getD i 0)).2) ∧ (tRes (dd t) ((flL (dd t)).getD i 0)).2.1 ≤ 131072 := by
      by_cases c0 : tL0 (dd t) ((flL (dd t)).getD i 0) = 0
      · have := (tRun_in hw hf 131073 0 _ (TIn_0 hw hf c0)).1
        have e : tRes (dd t) ((flL (dd t)).getD i 0) = tRun (dd t) ((flL (dd t)).getD i 0) 131073 0 (S0F (tY0 (dd t) ((flL (dd t)).getD i 0))) := if_pos c0
        rw [e]
        exact ⟨fun _ => this, this.le hw⟩
      · have e : tRes (dd t) ((flL (dd t)).getD i 0) = (none, (0, fun _ => 0, fun _ => (0, 0), 0)) := if_neg c0
        exact ⟨fun z => absurd z c0, by rw [e]; exact Nat.zero_le _⟩
    have hcT := capF_ok hqv hTF.2
    have qdis : ∀ {qb nxb : Nat}, nx ≤ nxb → (qb = qa ∨ nx ≤ qb) → qb < nxb → (∀ j, j < c → qb < da j ∨ da j + 29 ≤ qb) := by
      intro qb nxb n1 n2 n3 j hj
      rcases n2 with e | e
      · rw [e]; exact tdis j hj
      · have := tnx j hj; omega
    -- what is left at the end
    have fin : ∀ (h3 : AH) (nx3 qa3 : Nat) (S : BS) (p3 : Nat → Int64) (kk nn : Nat) (lv : LV), nx ≤ nx3 → (qa3 = qa ∨ nx ≤ qa3) → TT h3 w (da t) (dd t) ((flL (dd t)).getD i 0) v0 v1 nx3 qa3 q0 S → S.1 = (tRes (dd t) ((flL (dd t)).getD i 0)).2.1 → (∀ y, (y < w + 43 ∨ (w + 60 ≤ y ∧ y < w + 137) ∨ ∃ j, j < c ∧ da j ≤ y ∧ y < da j + 29) → y ≠ da t + 24 → y ≠ da t + 25 → h3 y = h y) → h3 (da t + 24) = some (.inl (2, 132, .inl (upd kg i 1))) → h3 (da t + 25) = some (.inl (1, 132, .inr (.inl p3))) → (∀ j, j ≠ i → p3 j = lp j) → encT (p3 i) (ltR (dd t) ((flL (dd t)).getD i 0)) → lk lv 3 = some (.ref (da t + 20)) → lk lv 2 = some (.int (nI i)) → Go l G 9 s_X9_leastTest (gC (capF q0 (tRes (dd t) ((flL (dd t)).getD i 0)).2.1) - gC q0) (gS (capF q0 (tRes (dd t) ((flL (dd t)).getD i 0)).2.1) - gS q0) Post 180 lv [] h3 nx3 kk nn := by
      intro h3 nx3 qa3 S p3 kk nn lv n1 n2 hT3 hS3 fr3 k24 k25 hp hx l3 l2
      obtain ⟨tb, ⟨gq3, gb3, r1, r2, r3, r4⟩, tQ3, tn3, td3⟩ := hT3
      have hO3 : FO h3 (da t) sc := hO.ag (fr3 _ (Or.inr (Or.inr ⟨t, ht, by omega, by omega⟩)) (by omega) (by omega))
      refine go_loc (lv' := [(3, .ref (da t + 20)), (2, .int (nI i))]) ⟨l3, l2, trivial⟩ ?_
      refine Go.of hX.2 ck_X9_leastTest [] 20 ?_
      refine Exists.intro _ (And.intro hO3 (Exists.intro _ (And.intro rfl ?_)))
      refine Exists.intro _ (Exists.intro _ (And.intro k25 (And.intro (vp_in_nI (by omega) (by decide)) ?_)))
      rw [nI_clamp (show i < 2 ^ 31 by omega)]
      rw [← hS3] at hP
      refine hP h3 nx3 (p3 i) n1 ⟨_, _, _, v1, tb.2.1, WK_one hw hf okW_no, hdt, hdt, tb.2.2.1, y4⟩ ⟨_, _, _, v0, tb.1, WK_one hw okW_no okW_no, hdt, hdt, y3⟩ ⟨qa3, _, gq3, gb3, r1, r2, r3, tQ3, (capF_ok hqv (by rw [hS3]; exact hTF.2)).1, qdis n1 n2 tQ3.2.1, fun j hj => by have := tnx j hj; omega⟩ ⟨_, p3, k24, k25, fun j hj => ?_⟩ hx (fun y a1 a2 => fr3 y a1 (by omega) (by omega))
      by_cases e : j = i
      · rw [e, pk_us, show upB kn i i = true from if_pos rfl]
        exact ⟨rfl, fun _ => hx⟩
      · rw [pk_un e, show upB kn i j = kn j from if_neg e, hp j e]
        exact kl j hj
    have frz : ∀ {h3 : AH} {nx3 qa3 : Nat}, FRt h1 h3 w qa nx → (∀ y, (y < w + 43 ∨ (w + 60 ≤ y ∧ y < w + 137) ∨ ∃ j, j < c ∧ da j ≤ y ∧ y < da j + 29) → y ≠ da t + 24 → y ≠ da t + 25 → h3 y = h y) ∧ h3 (da t + 24) = some (.inl (2, 132, .inl (upd kg i (vp_nar (TY 2) 1)))) ∧ h3 (da t + 25) = some (.inl (1, 132, .inr (.inl (vp_updL lp i (-1))))) := by
      intro h3 nx3 qa3 hfr
      refine ⟨fun y a1 a2 a3 => ?_, (hfr _ (by omega) (by omega) (by omega) (by omega)).trans e24b, (hfr _ (by omega) (by omega) (by omega) (by omega)).trans e25b⟩
      rcases a1 with z | z | ⟨j, hj, z⟩
      · rw [hfr y (by omega) (by omega) (by omega) (by omega)]
        exact fr1 y (by omega) a2 a3
      · rw [hfr y (by omega) (by omega) (by omega) (by omega)]
        exact fr1 y (by omega) a2 a3
      · have hj1 := tdis j hj
        have hj2 := tnx j hj
        have hj3 := (hA.2.2.2.2.1 j hj).2.2
        rw [hfr y (by omega) (by omega) (by omega) (by omega)]
        exact fr1 y (by omega) a2 a3
    have loop : ∀ (n k le acts : Nat) (h3 : AH) (nx3 qa3 : Nat) (S : BS) (kk nn : Nat), n + k = 131073 → tRun (dd t) ((flL (dd t)).getD i 0) n k S = tRes (dd t) ((flL (dd t)).getD i 0) → tL0 (dd t) ((flL (dd t)).getD i 0) = 0 → TIn (dd t) ((flL (dd t)).getD i 0) S → k ≤ le → le ≤ S.1 → (∀ j, k ≤ j → j < le → tD S j = acts) → (∀ j, le ≤ j → j < S.1 → tD S j = acts + 1) → acts ≤ 131072 → FRt h1 h3 w qa nx → nx ≤ nx3 → (qa3 = qa ∨ nx ≤ qa3) → TT h3 w (da t) (dd t) ((flL (dd t)).getD i 0) v0 v1 nx3 qa3 q0 S → kk = gC (capF q0 S.1) - gC q0 → nn = gS (capF q0 S.1) - gS q0 → Go l G 9 s_X9_leastTest (gC (capF q0 (tRes (dd t) ((flL (dd t)).getD i 0)).2.1) - gC q0) (gS (capF q0 (tRes (dd t) ((flL (dd t)).getD i 0)).2.1) - gS q0) Post 86 [(6, .int (nI k)), (5, .int (nI acts)), (4, .int (nI le)), (3, .ref (da t + 20)), (0, .ref (w + 52)), (1, .ref (da t)), (2, .int (nI i))] [] h3 nx3 kk nn := by
      intro n
      induction n with
      | zero =>
        intro k le acts h3 nx3 qa3 S kk nn hn hrun hz0 hIn hkl hlS hl1 hl2 hac hfr n1 n2 hT3 hkk hnn
        have := hIn.le hw
        omega
      | succ n ih =>
        intro k le acts h3 nx3 qa3 S kk nn hn hrun hz0 hIn hkl hlS hl1 hl2 hac hfr n1 n2 hT3 hkk hnn
        have hSle := hIn.le hw
        obtain ⟨tb, ⟨gq3, gb3, r1, r2, r3, r4⟩, tQ3, tn3, td3⟩ := id hT3
        obtain ⟨frA, frB, frC⟩ := frz (nx3 := nx3) (qa3 := qa3) hfr
        have hO3 : FO h3 (da t) sc := hO.ag (frA _ (Or.inr (Or.inr ⟨t, ht, by omega, by omega⟩)) (by omega) (by omega))
        have hnone : (tRes (dd t) ((flL (dd t)).getD i 0)).1 = none → ltR (dd t) ((flL (dd t)).getD i 0) = none := by
          intro e
          unfold ltR
          rw [if_neg (by rw [hz0]; decide), e]
        have mono := gS_mono (capF_mono hqv (show S.1 ≤ (tRes (dd t) ((flL (dd t)).getD i 0)).2.1 from by rw [← hrun]; exact (tRun_in hw hf (n + 1) k S hIn).2) hTF.2)
        have hcapS := capF_ok hqv hSle
        have hclS : capF q0 S.1 ≤ 131072 := by have := hcapS.1; unfold QV at this; omega
        have exitN : tRun (dd t) ((flL (dd t)).getD i 0) (n + 1) k S = (none, S) → ∀ lv, lk lv 3 = some (.ref (da t + 20)) → lk lv 2 = some (.int (nI i)) → Go l G 9 s_X9_leastTest (gC (capF q0 (tRes (dd t) ((flL (dd t)).getD i 0)).2.1) - gC q0) (gS (capF q0 (tRes (dd t) ((flL (dd t)).getD i 0)).2.1) - gS q0) Post 180 lv [] h3 nx3 kk nn := by
          intro e lv l3 l2
          rw [e] at hrun
          refine fin h3 nx3 qa3 S (vp_updL lp i (-1)) kk nn lv n1 n2 hT3 (by rw [← hrun]) frA frB frC (fun j hj => pk_uLn hj) ?_ l3 l2
          rw [hnone (by rw [← hrun]), pk_uLs]
          rfl
        refine Go.of hX.2 ck_X9_leastTest [86, 128, 180] 60 ?_
        refine Exists.intro _ (And.intro r1 (Exists.intro _ (And.intro rfl ?_)))
        by_cases c1 : k < S.1
        · refine And.intro (fun cz => absurd cz (nI_ge c1 (by omega))) (fun _ => ?_)
          refine And.intro (fun cz => absurd cz (nI_ge (b := 131072) (show k < 131072 by omega) (by decide))) (fun _ => ?_)
          refine Exists.intro _ (And.intro r1 (Exists.intro _ (And.intro rfl ?_)))
          refine Exists.intro _ (Exists.intro _ (And.intro r2 (And.intro (by decide) ?_)))
          refine And.intro (fun cz => absurd cz (show ¬ nI (capF q0 S.1) ≤ nI k from nI_ge (by omega) (by omega))) (fun _ => ?_)
          have next : ∀ (le2 acts2 : Nat), k < le2 → le2 ≤ S.1 → (∀ j, k ≤ j → j < le2 → tD S j = acts2) → (∀ j, le2 ≤ j → j < S.1 → tD S j = acts2 + 1) → acts2 ≤ 131072 → Go l G 9 s_X9_leastTest (gC (capF q0 (tRes (dd t) ((flL (dd t)).getD i 0)).2.1) - gC q0) (gS (capF q0 (tRes (dd t) ((flL (dd t)).getD i 0)).2.1) - gS q0) Post 128 [(6, .int (nI k)), (5, .int (nI acts2)), (4, .int (nI le2)), (3, .ref (da t + 20)), (0, .ref (w + 52)), (1, .ref (da t)), (2, .int (nI i))] [] h3 nx3 kk nn := by
            intro le2 acts2 g1_ g2_ g3_ g4_ g5_
            have htk : tD S k = acts2 := g3_ k (Nat.le_refl _) g1_
            refine Go.of hX.2 ck_X9_leastTest [86, 180] 60 ?_
            by_cases c2 : acts2 < 12
            · refine And.intro (fun _ => ?_) (fun cz => absurd (nI_lt c2 (by decide)) cz)
              have hD3 : XD h3 (da t) (dd t) := tb.2.2.2
              obtain ⟨_, _, _, _, _, _, _, _, _, _, _, _, _, _, _, _, _, d03, _⟩ := id hD3
              refine Exists.intro _ (And.intro d03 (Exists.intro _ (And.intro rfl ?_)))
              have hEnd := tEnd_in hw hf hIn c1
              have hrun2 : (tEnd (dd t) ((flL (dd t)).getD i 0) k S).1 ≤ (tRes (dd t) ((flL (dd t)).getD i 0)).2.1 := by
                rw [← hrun]
                unfold tRun tEnd
                rw [if_pos ⟨c1, by omega⟩]
                cases e : fsA (tSn (dd t) ((flL (dd t)).getD i 0) (S.2.1 k)) (dI (dd t)) with
                | some i2 => exact Nat.le_refl _
                | none =>
                  have h7 := tEnd_in hw hf hIn c1
                  unfold tEnd at h7
                  rw [e] at h7
                  exact (tRun_in hw hf n (k + 1) _ h7).2
              have m1 := gS_mono (capF_mono hqv (tEnd_mono (D := dd t) (f := (flL (dd t)).getD i 0) (k := k) (S := S)).1 (hEnd.le hw))
              have m2 := gS_mono (capF_mono hqv hrun2 hTF.2)
              have m0 := gS_mono hcapS.2.1
              refine Exists.intro _ (And.intro r1 (Exists.intro _ (Exists.intro _ (And.intro (show kk + (gC (capF q0 (tEnd (dd t) ((flL (dd t)).getD i 0) k S).1) - gC (capF q0 S.1)) ≤ _ by omega) (And.intro (show nn + (gS (capF q0 (tEnd (dd t) ((flL (dd t)).getD i 0) k S).1) - gS (capF q0 S.1)) ≤ _ by omega) (x_actFrom hX hT3 hw hf hlo hqv hIn c1 (fun h4 nx4 qa4 r a1 a2 a3 a4 a5 => ?_)))))))
              have hfr4 : FRt h1 h4 w qa nx := fun x x1 x2 x3 x4 => (a1 x (Nat.lt_of_lt_of_le x1 n1) (q_ne x1 x2 n2) x3 x4).trans (hfr x x1 x2 x3 x4)
              have n2b : qa4 = qa ∨ nx ≤ qa4 := q_tr n2 a3 n1
              rcases a5 with ⟨act, a6, a7, rfl⟩ | ⟨a6, rfl⟩
              · refine And.intro (fun cz => absurd cz (nI_pos (by omega))) (fun _ => ?_)
                have er : tRun (dd t) ((flL (dd t)).getD i 0) (n + 1) k S = (some (k, act), tEnd (dd t) ((flL (dd t)).getD i 0) k S) := by
                  unfold tRun tEnd
                  rw [if_pos ⟨c1, by omega⟩, a6]
                rw [er] at hrun
                obtain ⟨frA4, frB4, frC4⟩ := frz (nx3 := nx4) (qa3 := qa4) hfr4
                have hO4 : FO h4 (da t) sc := hO.ag (frA4 _ (Or.inr (Or.inr ⟨t, ht, by omega, by omega⟩)) (by omega) (by omega))
                obtain ⟨tb4, tR4, tQ4, tn4, td4⟩ := id a4
                obtain ⟨_, _, r14, _⟩ := id tR4
                have hk4 : k < (tEnd (dd t) ((flL (dd t)).getD i 0) k S).1 := Nat.lt_of_lt_of_le c1 (tEnd_mono (D := dd t) (f := (flL (dd t)).getD i 0) (k := k) (S := S)).1
                have htd := (tEnd_tD (D := dd t) (f := (flL (dd t)).getD i 0) hIn c1).1 k c1
                refine Exists.intro _ (And.intro hO4 (Exists.intro _ (And.intro rfl ?_)))
                have hgo := @x_testTo l G h4 nx4 (fun u h5 nx5 => ∃ v, u = some (.long (lN v)) ∧ h5 = h4 ∧ nx5 = nx4 ∧ encN v (tD (tEnd (dd t) ((flL (dd t)).getD i 0) k S) k + 1) (tActs (tEnd (dd t) ((flL (dd t)).getD i 0) k S) k act)) w qa4 q0 k act ((flL (dd t)).getD i 0) (dd t) (tEnd (dd t) ((flL (dd t)).getD i 0) k S) hX tR4 hw hqv hEnd hk4 a7 (by omega) (fun v hv2 => ⟨v, rfl, rfl, rfl, hv2⟩)
                rw [show nI (tD (tEnd (dd t) ((flL (dd t)).getD i 0) k S) k) = nI acts2 from by rw [htd, htk]] at hgo
                refine Exists.intro _ (And.intro r14 (Exists.intro 0 (Exists.intro 0 (And.intro (by omega) (And.intro (by omega) (Runs.mono (fun u h5 nx5 hu => ?_) hgo))))))
                obtain ⟨v, rfl, rfl, rfl, hv2⟩ := hu
                refine Exists.intro _ (Exists.intro _ (And.intro frC4 (And.intro (vp_in_nI (by omega) (by decide)) ?_)))
                rw [nI_clamp (show i < 2 ^ 31 by omega)]
                refine fin _ nx5 qa4 _ (vp_updL (vp_updL lp i (-1)) i (lN v)) _ _ _ (by omega) n2b ⟨tb4.ag (fun x hx => uph_ne (by omega)), tR4.ag (uph_ne (by omega)) (uph_ne (by omega)) (uph_ne (by omega)), tQ4, tn4, td4⟩ (by rw [← hrun]) (fun y b1 b2 b3 => by rw [uph_ne b3]; exact frA4 y b1 b2 b3) (by rw [uph_ne (by omega)]; exact frB4) uph_eq (fun j hj => by rw [pk_uLn hj, pk_uLn hj]) ?_ rfl rfl
                rw [pk_uLs]
                have el : ltR (dd t) ((flL (dd t)).getD i 0) = some (tD (tEnd (dd t) ((flL (dd t)).getD i 0) k S) k + 1, tActs (tEnd (dd t) ((flL (dd t)).getD i 0) k S) k act) := by
                  unfold ltR
                  rw [if_neg (by rw [hz0]; decide), ← hrun]
                rw [el]
                exact encT_some hw hEnd hk4 a7 hv2
              · refine And.intro (fun _ => ?_) (fun cz => by first | exact absurd cz (by decide) | exact absurd (by decide) cz)
                have er : tRun (dd t) ((flL (dd t)).getD i 0) (n + 1) k S = tRun (dd t) ((flL (dd t)).getD i 0) n (k + 1) (tEnd (dd t) ((flL (dd t)).getD i 0) k S) := by
                  conv => lhs; unfold tRun
                  unfold tEnd
                  rw [if_pos ⟨c1, by omega⟩, a6]
                rw [er] at hrun
                have htd := tEnd_tD (D := dd t) (f := (flL (dd t)).getD i 0) hIn c1
                have htm := (tEnd_mono (D := dd t) (f := (flL (dd t)).getD i 0) (k := k) (S := S)).1
                refine go_loc (lv' := [(6, .int (nI k + 1)), (5, .int (nI acts2)), (4, .int (nI le2)), (3, .ref (da t + 20)), (0, .ref (w + 52)), (1, .ref (da t)), (2, .int (nI i))]) ⟨rfl, rfl, rfl, rfl, rfl, rfl, rfl, trivial⟩ ?_
                rw [← nI_succ]
                refine ih (k + 1) le2 acts2 h4 nx4 qa4 _ _ _ (by omega) hrun hz0 hEnd (by omega) (by omega) (fun j b1 b2 => ?_) (fun j b1 b2 => ?_) g5_ hfr4 (by omega) n2b a4 (by omega) (by omega)
                · rw [htd.1 j (by omega)]
                  exact g3_ j (by omega) b2
                · by_cases b3 : j < S.1
                  · rw [htd.1 j b3]
                    exact g4_ j b1 b3
                  · rw [htd.2 j (by omega) b2, htk]
            · refine And.intro (fun cz => absurd cz (nI_nlt (a := acts2) (b := 12) (by omega) (by omega))) (fun _ => ?_)
              exact exitN (by unfold tRun; rw [if_neg (fun z => by have := z.2; omega)]) _ rfl rfl
          by_cases c3 : k = le
          · refine And.intro (fun cz => absurd (show nI k = nI le from by rw [c3]) cz) (fun _ => ?_)
            refine Exists.intro _ (And.intro r1 (Exists.intro _ (And.intro rfl ?_)))
            refine go_loc (lv' := [(6, .int (nI k)), (5, .int (nI acts + 1)), (4, .int (nI S.1)), (3, .ref (da t + 20)), (0, .ref (w + 52)), (1, .ref (da t)), (2, .int (nI i))]) ⟨rfl, rfl, rfl, rfl, rfl, rfl, rfl, trivial⟩ ?_
            rw [← nI_succ]
            have h8 : tD S k ≤ k := dpF_le (fr := fun i => (S.2.2.1 i).1) hIn.fr k k (Nat.le_refl _) c1
            have h9 := hl2 k (by omega) c1
            exact next S.1 (acts + 1) c1 (Nat.le_refl _) (fun j b1 b2 => hl2 j (by omega) b2) (fun j b1 b2 => absurd b2 (by omega)) (by omega)
          · refine And.intro (fun _ => ?_) (fun cz => absurd cz (fun z => c3 ((nI_eq (by omega) (by omega)).mp z)))
            refine go_loc (lv' := [(6, .int (nI k)), (5, .int (nI acts)), (4, .int (nI le)), (3, .ref (da t + 20)), (0, .ref (w + 52)), (1, .ref (da t)), (2, .int (nI i))]) ⟨rfl, rfl, rfl, rfl, rfl, rfl, rfl, trivial⟩ ?_
            exact next le acts (by omega) hlS hl1 hl2 hac
        · refine And.intro (fun _ => ?_) (fun cz => absurd (nI_le (a := S.1) (b := k) (by omega) (by omega)) cz)
          exact exitN (by unfold tRun; rw [if_neg (fun z => c1 z.1)]) _ rfl rfl
    by_cases c0 : tL0 (dd t) ((flL (dd t)).getD i 0) = 0
    · rw [c0]
      refine And.intro (fun _ => ?_) (fun cz => by first | exact absurd cz (by decide) | exact absurd (by decide) cz)
      refine go_loc (lv' := [(6, .int (nI 0)), (5, .int (nI 0)), (4, .int (nI 1)), (3, .ref (da t + 20)), (0, .ref (w + 52)), (1, .ref (da t)), (2, .int (nI i))]) ⟨rfl, rfl, rfl, rfl, rfl, rfl, rfl, trivial⟩ ?_
      have e0 : tS0 (dd t) ((flL (dd t)).getD i 0) = S0F (tY0 (dd t) ((flL (dd t)).getD i 0)) := if_pos c0
      rw [e0] at z4
      have ec1 : capF q0 (S0F (tY0 (dd t) ((flL (dd t)).getD i 0))).1 = q0 := capF_0 (show 1 ≤ q0 by omega)
      exact loop 131073 0 1 0 h2 nx2 qa2 _ _ _ rfl (by unfold tRes; rw [if_pos c0]) c0 (TIn_0 hw hf c0) (by decide) (Nat.le_refl _) (fun j _ hj => by rw [show j = 0 by omega]; rfl) (fun j b1 b2 => by have b3 : j < 1 := b2; omega) (by decide) z1 z2 z3 z4 (by rw [ec1, Nat.sub_self]) (by rw [ec1, Nat.sub_self])
    · have e0 : tS0 (dd t) ((flL (dd t)).getD i 0) = t00 := if_neg c0
      rw [e0] at z4
      have eR : tRes (dd t) ((flL (dd t)).getD i 0) = (none, (0, fun _ => 0, fun _ => (0, 0), 0)) := if_neg c0
      obtain ⟨frA, frB, frC⟩ := frz (nx3 := nx2) (qa3 := qa2) z1
      have hO2 : FO h2 (da t) sc := hO.ag (frA _ (Or.inr (Or.inr ⟨t, ht, by omega, by omega⟩)) (by omega) (by omega))
      have hlt : tL0 (dd t) ((flL (dd t)).getD i 0) < 3 := by
        unfold tL0 tLk
        repeat' split
        all_goals decide
      have c12 : tL0 (dd t) ((flL (dd t)).getD i 0) = 1 ∨ tL0 (dd t) ((flL (dd t)).getD i 0) = 2 := by omega
      rcases c12 with c | c
      · rw [c]
        have el : ltR (dd t) ((flL (dd t)).getD i 0) = some (0, fun _ => 0) := if_pos c
        refine And.intro (fun cz => by first | exact absurd cz (by decide) | exact absurd (by decide) cz) (fun _ => ?_)
        refine Exists.intro _ (And.intro hO2 (Exists.intro _ (And.intro rfl ?_)))
        refine Exists.intro _ (Exists.intro _ (And.intro frC (And.intro (vp_in_nI (by omega) (by decide)) ?_)))
        rw [nI_clamp (show i < 2 ^ 31 by omega)]
        obtain ⟨tb4, tR4, tQ4, tn4, td4⟩ := id z4
        have hz4 : TT (uph h2 (da t + 25) (.inl (1, 132, .inr (.inl (vp_updL (vp_updL lp i (-1)) i 0))))) w (da t) (dd t) ((flL (dd t)).getD i 0) v0 v1 nx2 qa2 q0 t00 := ⟨tb4.ag (fun x hx => uph_ne (by have := tQ4.1; omega)), tR4.ag (uph_ne (by omega)) (uph_ne (by have := tQ4.1; omega)) (uph_ne (by omega)), tQ4, tn4, td4⟩
        obtain ⟨_, ⟨_, _, r14, _⟩, _⟩ := id hz4
        refine go_loc (lv' := [(6, .int (nI 0)), (5, .int (nI 0)), (4, .int (nI 1)), (3, .ref (da t + 20)), (0, .ref (w + 52)), (1, .ref (da t)), (2, .int (nI i))]) ⟨rfl, rfl, rfl, rfl, rfl, rfl, rfl, trivial⟩ ?_
        refine Go.of hX.2 ck_X9_leastTest [180] 40 ?_
        refine Exists.intro _ (And.intro r14 (Exists.intro _ (And.intro rfl ?_)))
        refine And.intro (fun _ => ?_) (fun cz => by first | exact absurd cz (by decide) | exact absurd (by decide) cz)
        refine fin _ nx2 qa2 t00 _ _ _ _ z2 z3 hz4 (by rw [eR]; rfl) (fun y b1 b2 b3 => by rw [uph_ne b3]; exact frA y b1 b2 b3) (by rw [uph_ne (by omega)]; exact frB) uph_eq (fun j hj => by rw [pk_uLn hj, pk_uLn hj]) ?_ rfl rfl
        rw [pk_uLs, el]
        exact ⟨0, rfl, ⟨by decide, fun b => by rw [Nat.zero_testBit, Nat.zero_testBit, Bool.and_false, decide_eq_false (by omega), Bool.false_and]; rfl⟩, fun j hj => absurd hj (Nat.not_lt_zero j)⟩
      · rw [c]
        have el : ltR (dd t) ((flL (dd t)).getD i 0) = none := by
          unfold ltR
          rw [if_neg (by rw [c]; decide), eR]
        refine And.intro (fun _ => ?_) (fun cz => by first | exact absurd cz (by decide) | exact absurd (by decide) cz)
        refine go_loc (lv' := [(6, .int (nI 0)), (5, .int (nI 0)), (4, .int (nI 1)), (3, .ref (da t + 20)), (0, .ref (w + 52)), (1, .ref (da t)), (2, .int (nI i))]) ⟨rfl, rfl, rfl, rfl, rfl, rfl, rfl, trivial⟩ ?_
        refine Go.of hX.2 ck_X9_leastTest [180] 40 ?_
        obtain ⟨_, ⟨_, _, r14, _⟩, _⟩ := id z4
        refine Exists.intro _ (And.intro r14 (Exists.intro _ (And.intro rfl ?_)))
        refine And.intro (fun _ => ?_) (fun cz => by first | exact absurd cz (by decide) | exact absurd (by decide) cz)
        refine fin _ nx2 qa2 t00 _ _ _ _ z2 z3 z4 (by rw [eR]; rfl) frA frB frC (fun j hj => pk_uLn hj) ?_ rfl rfl
        rw [pk_uLs, el]
        rfl
