/-! least(), leastAct(): on both sides -/
noncomputable def aLeast (D : DD) (f : Int32) : Int32 := if vFx (dK D) (dR D) (dow D) f = true then (match ltR D f.toNatClampNeg with
  | none => -2
  | some p => nI p.1) else -1
/-- an act of a test -/
def aAt (r : Option (Nat × (Nat → Nat))) (i : Int32) : Int32 := match r with
  | none => -1
  | some p => if 0 ≤ i ∧ i < nI p.1 then nI (p.2 i.toNatClampNeg) else -1
noncomputable def aLeastAct (D : DD) (f i : Int32) : Int32 := if vFx (dK D) (dR D) (dow D) f = true then aAt (ltR D f.toNatClampNeg) i else -1
theorem ltR_lt {D : DD} {f : Nat} {p : Nat × (Nat → Nat)} (hw : WD D) (hf : okW D (some f)) (h : ltR D f = some p) : p.1 ≤ 12 ∧ ∀ j, j < p.1 → p.2 j < dI D := by
  unfold ltR at h
  split at h
  · cases h
    exact ⟨by decide, fun j hj => absurd hj (Nat.not_lt_zero j)⟩
  · split at h
    · next pq hpq =>
      cases h
      have key : ∀ (n k : Nat) (S : BS) (q : Nat × Nat), TIn D f S → (tRun D f n k S).1 = some q → q.1 < (tRun D f n k S).2.1 ∧ q.2 < dI D ∧ tD (tRun D f n k S).2 q.1 < 12 := by
        intro n
        induction n with
        | zero => intro k S q _ z; cases z
        | succ n ih =>
          intro k S q hI z
          unfold tRun at z ⊢
          by_cases c : k < S.1 ∧ tD S k < 12
          · rw [if_pos c] at z ⊢
            cases e : fsA (tSn D f (S.2.1 k)) (dI D) with
            | some i =>
              rw [e] at z
              cases z
              have h1 := bI_at (nb := tNb D f) c.1 rfl i
              have h2 := (bI_tD (nb := tNb D f) (x := S.2.1 k) hI.fr (by omega) c.1 i).2.1 k c.1
              exact ⟨h1.1, fsA_lt e, by
                show tD (bI (tNb D f) k (S.2.1 k) i S) k < 12
                rw [h2]
                exact c.2⟩
            | none =>
              rw [e] at z
              have h1 := tEnd_in hw hf hI c.1
              unfold tEnd at h1
              rw [e] at h1
              exact ih (k + 1) _ q h1 z
          · rw [if_neg c] at z
            cases z
      by_cases c0 : tL0 D f = 0
      · have e : tRes D f = tRun D f 131073 0 (S0F (tY0 D f)) := if_pos c0
        have hI0 := TIn_0 hw hf c0
        have hI := (tRun_in hw hf 131073 0 _ hI0).1
        rw [e] at hpq ⊢
        obtain ⟨k1, k2, k3⟩ := key 131073 0 _ pq hI0 hpq
        refine ⟨k3, fun j hj => ?_⟩
        have hj2 : j < tD (tRun D f 131073 0 (S0F (tY0 D f))).2 pq.1 + 1 := hj
        show tActs (tRun D f 131073 0 (S0F (tY0 D f))).2 pq.1 pq.2 j < dI D
        unfold tActs
        split
        · exact k2
        · have hb : ∀ m at_, at_ < (tRun D f 131073 0 (S0F (tY0 D f))).2.1 → m < tD (tRun D f 131073 0 (S0F (tY0 D f))).2 at_ → 0 < bkF (fun a => ((tRun D f 131073 0 (S0F (tY0 D f))).2.2.2.1 a).1) m at_ ∧ bkF (fun a => ((tRun D f 131073 0 (S0F (tY0 D f))).2.2.2.1 a).1) m at_ < (tRun D f 131073 0 (S0F (tY0 D f))).2.1 := by
            intro m
            induction m with
            | zero =>
              intro at_ ha hm
              exact ⟨(tD_pos hI ha hm).1, ha⟩
            | succ m ih =>
              intro at_ ha hm
              obtain ⟨p0, p1⟩ := tD_pos hI ha (by omega)
              have := hI.fr at_ p0 ha
              exact ih ((tRun D f 131073 0 (S0F (tY0 D f))).2.2.2.1 at_).1 (by omega) (by omega)
          obtain ⟨b1, b2⟩ := hb (tD (tRun D f 131073 0 (S0F (tY0 D f))).2 pq.1 - 1 - j) pq.1 k1 (by omega)
          exact (hI.2.1 _ b1 b2).2.1
      · have e : tRes D f = (none, (0, fun _ => 0, fun _ => (0, 0), 0)) := if_neg c0
        rw [e] at hpq
        cases hpq
    · cases h
theorem encN_v {v n : Nat} {a : Nat → Nat} (h : encN v n a) : v < 2 ^ 44 ∧ v >>> 40 = n ∧ ∀ i, i < n → a i < 8 → (v >>> (3 * i)) % 8 = a i := by
  obtain ⟨h12, hb⟩ := h
  have hn : n < 2 ^ 4 := by omega
  refine ⟨?_, ?_, fun i hi ha => ?_⟩
  · refine Nat.lt_of_not_le (fun hge => ?_)
    obtain ⟨i, hi, hi2⟩ := Nat.exists_ge_and_testBit_of_ge_two_pow hge
    rw [hb i, tb_big hn (by omega), Bool.and_false, decide_eq_false (by omega), Bool.false_and] at hi2
    cases hi2
  · refine Nat.eq_of_testBit_eq (fun b => ?_)
    rw [Nat.testBit_shiftRight, hb, decide_eq_true (by omega), Bool.true_and, show 40 + b - 40 = b by omega, decide_eq_false (show ¬ 40 + b < 3 * n by omega), Bool.false_and, Bool.or_false]
  · refine Nat.eq_of_testBit_eq (fun b => ?_)
    rw [show (8 : Nat) = 2 ^ 3 from rfl, Nat.testBit_mod_two_pow, Nat.testBit_shiftRight, hb]
    by_cases c : b < 3
    · rw [decide_eq_true c, Bool.true_and, decide_eq_false (show ¬ 40 ≤ 3 * i + b by omega), Bool.false_and, Bool.false_or, decide_eq_true (show 3 * i + b < 3 * n by omega), Bool.true_and, show (3 * i + b) / 3 = i by omega, show (3 * i + b) % 3 = b by omega]
    · rw [decide_eq_false c, Bool.false_and, tb_big (k := 3) ha (by omega)]
theorem cmp_m1 : lg_cmp (-1) 0 = -1 := by decide
theorem cmp_nn {v : Nat} (hv : v < 2 ^ 63) : ¬ lg_cmp (lN v) 0 < 0 := by
  have h1 : ¬ lN v < 0 := by
    rw [show (0 : Int64) = lN 0 from rfl]
    exact fun z => absurd ((pk_lLT hv (by decide)).mp z) (Nat.not_lt_zero v)
  exact Int32.not_lt.mpr ((lg_cmp_ge _ _).mpr (Int64.not_lt.mp h1))
def aActs (r : Option (Nat × (Nat → Nat))) : Nat := match r with
  | none => 0
  | some p => p.1
set_option maxHeartbeats 8000000 in
theorem x_actsOf {l : Launch} {G : GG} {h : AH} {nx : Nat} {Post : Option Value → AH → Nat → Prop} {x : Int64} {r : Option (Nat × (Nat → Nat))} (hX : XC G ∧ TX l G) (he : encT x r) (hP : Post (some (.int (nI (aActs r)))) h nx) : Runs l G i_X9_actsOf 0 0 [.long x] h nx Post := by
  refine en_X9_actsOf hX [] 30 rfl ?_
  cases r with
  | none =>
    have e : x = -1 := he
    subst e
    refine And.intro (fun cz => absurd cz (show ¬ (0 : Int32) ≤ lg_cmp (-1) 0 from by rw [cmp_m1]; decide)) (fun _ => ?_)
    exact And.intro rfl (hP)
  | some p =>
    obtain ⟨v, rfl, hv, _⟩ := he
    obtain ⟨v1, v2, v3⟩ := encN_v hv
    refine And.intro (fun _ => ?_) (fun cz => absurd (Int32.not_lt.mp (cmp_nn (by omega))) cz)
    have e : (lN v >>> ((40 : Int32).toInt64 &&& 63)).toInt32 = nI p.1 := by rw [show (40 : Int32) = nI 40 from rfl, lx_shr (by omega) (by decide), lN_i, v2]
    have hP2 : Post (some (.int ((lN v >>> ((40 : Int32).toInt64 &&& 63)).toInt32))) h nx := by rw [e]; exact hP
    exact And.intro rfl hP2
set_option maxHeartbeats 8000000 in
theorem x_actAt {l : Launch} {G : GG} {h : AH} {nx : Nat} {Post : Option Value → AH → Nat → Prop} {x : Int64} {i : Int32} {r : Option (Nat × (Nat → Nat))} (hX : XC G ∧ TX l G) (he : encT x r) (hP : Post (some (.int (aAt r i))) h nx) : Runs l G i_X9_actAt 0 0 [.long x, .int i] h nx Post := by
  refine en_X9_actAt hX [] 50 rfl ?_
  by_cases c1 : i < 0
  · refine And.intro (fun _ => ?_) (fun cz => absurd (c1) cz)
    have e : aAt r i = -1 := by
      unfold aAt
      split
      · rfl
      · exact if_neg (fun z => absurd c1 (Int32.not_lt.mpr z.1))
    rw [e] at hP
    exact And.intro rfl (hP)
  · refine And.intro (fun cz => absurd cz (c1)) (fun _ => ?_)
    obtain ⟨j, hj, rfl⟩ := nI_of c1
    refine Exists.intro 0 (Exists.intro 0 (And.intro (Nat.le_refl _) (And.intro (Nat.le_refl _) (x_actsOf hX he ?_))))
    cases r with
    | none =>
      refine And.intro (fun cz => absurd cz (show ¬ nI j < nI 0 from nI_nlt (Nat.zero_le _) hj)) (fun _ => ?_)
      exact And.intro rfl (hP)
    | some p =>
      obtain ⟨v, rfl, hv, h5⟩ := he
      obtain ⟨v1, v2, v3⟩ := encN_v hv
      have h12 := hv.1
      by_cases c2 : j < p.1
      · refine And.intro (fun _ => ?_) (fun cz => absurd (show nI j < nI (aActs (some p)) from nI_lt c2 (show p.1 < 2 ^ 31 by omega)) cz)
        have e : (lN v >>> (((3 : Int32) * nI j).toInt64 &&& 63)).toInt32 &&& 7 = nI (p.2 j) := by
          rw [show (3 : Int32) = nI 3 from rfl, nI_mul, lx_shr (by omega) (by omega), lN_i, show (7 : Int32) = nI 7 from rfl, nx_and, show (7 : Nat) = 2 ^ 3 - 1 from rfl, Nat.and_two_pow_sub_one_eq_mod]
          have := h5 j c2
          rw [show (2 : Nat) ^ 3 = 8 from rfl, v3 j c2 (by omega)]
        have e2 : aAt (some p) (nI j) = nI (p.2 j) := by
          show (if 0 ≤ nI j ∧ nI j < nI p.1 then nI (p.2 (nI j).toNatClampNeg) else -1) = _
          rw [if_pos ⟨nI_pos' hj, nI_lt c2 (by omega)⟩, nI_clamp hj]
        rw [e2, ← e] at hP
        exact And.intro rfl (hP)
      · refine And.intro (fun cz => absurd cz (show ¬ nI j < nI (aActs (some p)) from nI_nlt (show p.1 ≤ j by omega) hj)) (fun _ => ?_)
        have e2 : aAt (some p) (nI j) = -1 := if_neg (fun z => absurd z.2 (nI_nlt (by omega) hj))
        rw [e2] at hP
        exact And.intro rfl (hP)
set_option maxHeartbeats 8000000 in
theorem x_leastY {l : Launch} {G : GG} {h : AH} {nx : Nat} {Post : Option Value → AH → Nat → Prop} {o w tl c t vb i q0 : Nat} {fp sc f : Int32} {da : Nat → Nat} {dd : Nat → DD} {kn : Nat → Bool} (hX : XC G ∧ TX l G) (hA : XA h o w tl fp c (nI t) da dd) (hH : XH h w c da dd vb) (hS : XS2 h w c da dd vb) (hT : TRq h w nx c da q0) (hO : FO h (da t) sc) (hL : FLk h (da t) (dd t) kn) (ht : t < c) (hv : vb + 1 < 2 ^ 31) (hi : i < (flL (dd t)).length) (hfi : f = nI ((flL (dd t)).getD i 0)) (hP : ∀ (h1 : AH) (nx1 : Nat), nx ≤ nx1 → XH h1 w c da dd (vb + 1) → XS2 h1 w c da dd (vb + 1) → TRq h1 w nx1 c da (tcap q0 kn (dd t) i) → FLk h1 (da t) (dd t) (upB kn i) → FWl h h1 w c da (da t + 24) (da t + 26) → Post (some (.int (aLeast (dd t) f))) h1 nx1) : Runs l G i_X11_least (gC (tcap q0 kn (dd t) i) - gC q0) (gS (tcap q0 kn (dd t) i) - gS q0) [.ref o, .int f] h nx Post := by
  have hdt : isDr w c da dd (da t) (dd t) := Or.inr ⟨t, ht, rfl, rfl⟩
  obtain ⟨hD, hw, _⟩ := hdt.xd hA
  have hl := flL_len hw
  have hflt := flL_lt hw hi
  have hvx : vFx (dK (dd t)) (dR (dd t)) (dow (dd t)) f = true := (vFx_ix hw).mpr ⟨i, hi, hfi⟩
  obtain ⟨_, _, _, _, _, _, _, _, _, _, _, _, _, _, _, _, _, d0, _⟩ := id hD
  obtain ⟨_, _, _, _, tO_, _⟩ := id hT
  refine en_X11_least hX [] 60 rfl ?_
  refine Exists.intro _ (And.intro hA.1 (Exists.intro 0 (Exists.intro 0 (And.intro (by omega) (And.intro (by omega) (x_current hX hA ht ?_))))))
  refine Exists.intro _ (And.intro d0 (Exists.intro 0 (Exists.intro 0 (And.intro (by omega) (And.intro (by omega) (x_flawIndex hX hD hw (fun k hk e => ?_) (fun e => by rw [hvx] at e; cases e) True.intro))))))
  have hki : k = i := flL_inj hk hi ((nI_eq (by have := flL_lt hw hk; omega) (by omega)).mp (e.symm.trans hfi))
  subst hki
  refine And.intro (fun _ => ?_) (fun cz => absurd (nI_pos' (by omega)) cz)
  refine Exists.intro _ (And.intro hA.1 (Exists.intro _ (And.intro rfl ?_)))
  refine Exists.intro _ (And.intro hA.1 (Exists.intro 0 (Exists.intro 0 (And.intro (by omega) (And.intro (by omega) (x_current hX hA ht ?_))))))
  refine Exists.intro _ (And.intro tO_ (Exists.intro _ (Exists.intro _ (And.intro (show 0 + 0 + 0 + 0 + (gC (tcap q0 kn (dd t) k) - gC q0) ≤ _ by omega) (And.intro (show 0 + 0 + 0 + 0 + (gS (tcap q0 kn (dd t) k) - gS q0) ≤ _ by omega) (x_leastTest hX hA hH hS hT hO hL ht hv hk (fun h1 nx1 x y1 y2 y3 y4 y5 y6 y7 => ?_)))))))
  have hP := hP h1 nx1 y1 y2 y3 y4 y5 y7
  unfold aLeast at hP
  rw [if_pos hvx, hfi, nI_clamp (by omega)] at hP
  cases er : ltR (dd t) ((flL (dd t)).getD k 0) with
  | none =>
    rw [er] at hP y6
    have ex : x = -1 := y6
    subst ex
    refine And.intro (fun cz => by first | exact absurd cz (by decide) | exact absurd (by decide) cz) (fun _ => ?_)
    exact And.intro rfl (hP)
  | some p =>
    rw [er] at hP
    have hne : x ≠ -1 := by
      rw [er] at y6
      obtain ⟨v, e1, hv2, _⟩ := y6
      have h1 := (encN_v hv2).1
      intro z
      rw [e1] at z
      have h2 := cmp_nn (v := v) (by omega)
      rw [z, cmp_m1] at h2
      exact absurd (by decide) h2
    refine And.intro (fun _ => ?_) (fun cz => absurd cz (fun z => hne (cmp_eq.mp z)))
    refine Exists.intro 0 (Exists.intro 0 (And.intro (by omega) (And.intro (by omega) (x_actsOf hX (er ▸ y6) ?_))))
    exact And.intro rfl (hP)
set_option maxHeartbeats 8000000 in
theorem x_leastN {l : Launch} {G : GG} {h : AH} {nx : Nat} {Post : Option Value → AH → Nat → Prop} {o w tl c t : Nat} {fp f : Int32} {da : Nat → Nat} {dd : Nat → DD} (hX : XC G ∧ TX l G) (hA : XA h o w tl fp c (nI t) da dd) (ht : t < c) (hn : vFx (dK (dd t)) (dR (dd t)) (dow (dd t)) f = false) (hP : Post (some (.int (aLeast (dd t) f))) h nx) : Runs l G i_X11_least 0 0 [.ref o, .int f] h nx Post := by
  have hdt : isDr w c da dd (da t) (dd t) := Or.inr ⟨t, ht, rfl, rfl⟩
  obtain ⟨hD, hw, _⟩ := hdt.xd hA
  obtain ⟨_, _, _, _, _, _, _, _, _, _, _, _, _, _, _, _, _, d0, _⟩ := id hD
  refine en_X11_least hX [] 60 rfl ?_
  refine Exists.intro _ (And.intro hA.1 (Exists.intro 0 (Exists.intro 0 (And.intro (Nat.le_refl _) (And.intro (Nat.le_refl _) (x_current hX hA ht ?_))))))
  refine Exists.intro _ (And.intro d0 (Exists.intro 0 (Exists.intro 0 (And.intro (Nat.le_refl _) (And.intro (Nat.le_refl _) (x_flawIndex hX hD hw (fun k hk e => by rw [(vFx_ix hw).mpr ⟨k, hk, e⟩] at hn; cases hn) (fun e => ?_) True.intro))))))
  refine And.intro (fun cz => by first | exact absurd cz (by decide) | exact absurd (by decide) cz) (fun _ => ?_)
  unfold aLeast at hP
  rw [if_neg (by rw [hn]; decide)] at hP
  exact And.intro rfl (hP)
set_option maxHeartbeats 8000000 in
theorem x_leastActY {l : Launch} {G : GG} {h : AH} {nx : Nat} {Post : Option Value → AH → Nat → Prop} {o w tl c t vb i q0 : Nat} {fp sc f a : Int32} {da : Nat → Nat} {dd : Nat → DD} {kn : Nat → Bool} (hX : XC G ∧ TX l G) (hA : XA h o w tl fp c (nI t) da dd) (hH : XH h w c da dd vb) (hS : XS2 h w c da dd vb) (hT : TRq h w nx c da q0) (hO : FO h (da t) sc) (hL : FLk h (da t) (dd t) kn) (ht : t < c) (hv : vb + 1 < 2 ^ 31) (hi : i < (flL (dd t)).length) (hfi : f = nI ((flL (dd t)).getD i 0)) (hP : ∀ (h1 : AH) (nx1 : Nat), nx ≤ nx1 → XH h1 w c da dd (vb + 1) → XS2 h1 w c da dd (vb + 1) → TRq h1 w nx1 c da (tcap q0 kn (dd t) i) → FLk h1 (da t) (dd t) (upB kn i) → FWl h h1 w c da (da t + 24) (da t + 26) → Post (some (.int (aLeastAct (dd t) f a))) h1 nx1) : Runs l G i_X11_leastAct (gC (tcap q0 kn (dd t) i) - gC q0) (gS (tcap q0 kn (dd t) i) - gS q0) [.ref o, .int f, .int a] h nx Post := by
  have hdt : isDr w c da dd (da t) (dd t) := Or.inr ⟨t, ht, rfl, rfl⟩
  obtain ⟨hD, hw, _⟩ := hdt.xd hA
  have hl := flL_len hw
  have hflt := flL_lt hw hi
  have hvx : vFx (dK (dd t)) (dR (dd t)) (dow (dd t)) f = true := (vFx_ix hw).mpr ⟨i, hi, hfi⟩
  obtain ⟨_, _, _, _, _, _, _, _, _, _, _, _, _, _, _, _, _, d0, _⟩ := id hD
  obtain ⟨_, _, _, _, tO_, _⟩ := id hT
  refine en_X11_leastAct hX [] 60 rfl ?_
  refine Exists.intro _ (And.intro hA.1 (Exists.intro 0 (Exists.intro 0 (And.intro (by omega) (And.intro (by omega) (x_current hX hA ht ?_))))))
  refine Exists.intro _ (And.intro d0 (Exists.intro 0 (Exists.intro 0 (And.intro (by omega) (And.intro (by omega) (x_flawIndex hX hD hw (fun k hk e => ?_) (fun e => by rw [hvx] at e; cases e) True.intro))))))
  have hki : k = i := flL_inj hk hi ((nI_eq (by have := flL_lt hw hk; omega) (by omega)).mp (e.symm.trans hfi))
  subst hki
  refine And.intro (fun _ => ?_) (fun cz => absurd (nI_pos' (by omega)) cz)
  refine Exists.intro _ (And.intro hA.1 (Exists.intro _ (And.intro rfl ?_)))
  refine Exists.intro _ (And.intro hA.1 (Exists.intro 0 (Exists.intro 0 (And.intro (by omega) (And.intro (by omega) (x_current hX hA ht ?_))))))
  refine Exists.intro _ (And.intro tO_ (Exists.intro _ (Exists.intro _ (And.intro (show 0 + 0 + 0 + 0 + (gC (tcap q0 kn (dd t) k) - gC q0) ≤ _ by omega) (And.intro (show 0 + 0 + 0 + 0 + (gS (tcap q0 kn (dd t) k) - gS q0) ≤ _ by omega) (x_leastTest hX hA hH hS hT hO hL ht hv hk (fun h1 nx1 x y1 y2 y3 y4 y5 y6 y7 => ?_)))))))
  have hP := hP h1 nx1 y1 y2 y3 y4 y5 y7
  unfold aLeastAct at hP
  rw [if_pos hvx, hfi, nI_clamp (by omega)] at hP
  refine Exists.intro 0 (Exists.intro 0 (And.intro (by omega) (And.intro (by omega) (x_actAt hX y6 ?_))))
  exact And.intro rfl (hP)
set_option maxHeartbeats 8000000 in
theorem x_leastActN {l : Launch} {G : GG} {h : AH} {nx : Nat} {Post : Option Value → AH → Nat → Prop} {o w tl c t : Nat} {fp f a : Int32} {da : Nat → Nat} {dd : Nat → DD} (hX : XC G ∧ TX l G) (hA : XA h o w tl fp c (nI t) da dd) (ht : t < c) (hn : vFx (dK (dd t)) (dR (dd t)) (dow (dd t)) f = false) (hP : Post (some (.int (aLeastAct (dd t) f a))) h nx) : Runs l G i_X11_leastAct 0 0 [.ref o, .int f, .int a] h nx Post := by
  have hdt : isDr w c da dd (da t) (dd t) := Or.inr ⟨t, ht, rfl, rfl⟩
  obtain ⟨hD, hw, _⟩ := hdt.xd hA
  obtain ⟨_, _, _, _, _, _, _, _, _, _, _, _, _, _, _, _, _, d0, _⟩ := id hD
  refine en_X11_leastAct hX [] 60 rfl ?_
  refine Exists.intro _ (And.intro hA.1 (Exists.intro 0 (Exists.intro 0 (And.intro (Nat.le_refl _) (And.intro (Nat.le_refl _) (x_current hX hA ht ?_))))))
  refine Exists.intro _ (And.intro d0 (Exists.intro 0 (Exists.intro 0 (And.intro (Nat.le_refl _) (And.intro (Nat.le_refl _) (x_flawIndex hX hD hw (fun k hk e => by rw [(vFx_ix hw).mpr ⟨k, hk, e⟩] at hn; cases hn) (fun e => ?_) True.intro))))))
  refine And.intro (fun cz => by first | exact absurd cz (by decide) | exact absurd (by decide) cz) (fun _ => ?_)
  unfold aLeastAct at hP
  rw [if_neg (by rw [hn]; decide)] at hP
  exact And.intro rfl (hP)
/-- the fields and rows that the model's tests change -/
def fTr (k : Nat) : Bool := fHut k || fLt k
def MTr (h : AH) (o : Nat) (fs : List Value) (h1 : AH) (fs1 : List Value) : Prop := MA h1 o fs1 ∧ SHm h1 o ∧ (∀ k, fTr k = false → fs1[k]? = fs[k]?) ∧ (∀ a, (a < o ∨ (o < a ∧ a < o + 1 + 35) ∨ o + 1 + 53 ≤ a) → h1 a = h a)
theorem MTr.tr {h h1 h2 : AH} {o : Nat} {fs fs1 fs2 : List Value} (a : MTr h o fs h1 fs1) (b : MTr h1 o fs1 h2 fs2) : MTr h o fs h2 fs2 := ⟨b.1, b.2.1, fun k hk => (b.2.2.1 k hk).trans (a.2.2.1 k hk), fun x hx => (b.2.2.2 x hx).trans (a.2.2.2 x hx)⟩
theorem MH.tt {h h1 : AH} {o : Nat} {fs fs1 : List Value} (a : MH h o fs h1 fs1) : MTr h o fs h1 fs1 := ⟨a.1, a.2.1, fun k hk => a.2.2.1 k (by unfold fTr at hk; exact (Bool.or_eq_false_iff.mp hk).1), fun x hx => a.2.2.2 x (by omega)⟩
theorem MLs.tt {h h1 : AH} {o : Nat} {fs fs1 : List Value} (a : MLs h o fs h1 fs1) : MTr h o fs h1 fs1 := ⟨a.1, a.2.1, fun k hk => a.2.2.1 k (by unfold fTr at hk; exact (Bool.or_eq_false_iff.mp hk).2), fun x hx => a.2.2.2 x (by omega)⟩
theorem MTr.f {h h1 : AH} {o : Nat} {fs fs1 : List Value} (a : MTr h o fs h1 fs1) {k : Nat} {v : Value} (hk : fTr k = false) (e : fs[k]? = some v) : fs1[k]? = some v := (a.2.2.1 k hk).trans e
theorem MTr.pg {h h1 : AH} {o d : Nat} {fs fs1 : List Value} {D : DD} (a : MTr h o fs h1 fs1) (hD : MPg h o d D) : MPg h1 o d D := hD.ag (fun j hj => a.2.2.2 _ (by omega))
theorem MSt.hut {h h1 : AH} {o sb : Nat} {fs fs1 : List Value} (a : MH h o fs h1 fs1) (hs : MSt h o fs sb) : MSt h1 o fs1 sb := by
  obtain ⟨st, gs, s1, s2, s3, s4⟩ := hs
  exact ⟨st, gs, s1, a.f rfl s2, (a.2.2.2 _ (by omega)).trans s3, s4⟩
set_option maxHeartbeats 8000000 in
theorem m_findsTest {l : Launch} {G : GG} {h : AH} {nx : Nat} {Post : Option Value → AH → Nat → Prop} {o d sb : Nat} {f : Int32} {D : DD} {fs : List Value} (hX : XC G ∧ TX l G) (hM : MA h o fs) (hS : SHm h o) (f19 : fs[19]? = some (.int (nI d))) (hD : MPg h o d D) (hw : WD D) (hf : vFx (dK D) (dR D) (dow D) f = true) (hst : MSt h o fs sb) (hsb : sb + 1 < 2 ^ 31) (hP : ∀ (h1 : AH) (fs1 : List Value), MTr h o fs h1 fs1 → LR h1 o fs1 (ltR D f.toNatClampNeg) → MSt h1 o fs1 (sb + 1) → Post none h1 nx) : Runs l G i_X12_findsTest 0 0 [.ref o, .int f] h nx Post := by
  obtain ⟨ff1, ff2, ff3, ff4, ff5⟩ := fOf_x hw hf
  refine en_X12_findsTest hX [] 40 rfl ?_
  refine Exists.intro _ (And.intro hM.1 (Exists.intro 0 (Exists.intro 0 (And.intro (Nat.le_refl _) (And.intro (Nat.le_refl _) (m_builds1 (hh := 0) (f := -1) (g := -1) hX hM hS f19 hD hw (by decide) rfl rfl (fun h1 fs1 y1 y2 y3 y4 => ?_)))))))
  refine Exists.intro _ (And.intro y1.1.1 (Exists.intro 0 (Exists.intro 0 (And.intro (Nat.le_refl _) (And.intro (Nat.le_refl _) (m_builds1 (hh := 1) (f := f) (g := -1) hX y1.1 y1.2.1 (y1.f rfl f19) (y1.pg hD) hw (by decide) (vFn_x hf) rfl (fun h2 fs2 z1 z2 z3 z4 => ?_)))))))
  have Y := y1.tr z1
  have hB0 : HB h2 o 0 (tq0 D) := z4 _ 0 (by decide) (by decide) y2 y3
  have hB1 : HB h2 o 1 (tq1 D f.toNatClampNeg) := by
    have e : kFG D f (-1) = tq1 D f.toNatClampNeg := by
      unfold kFG
      rw [ff1]
      rfl
    rw [← e]
    exact z3
  rw [ff1] at ff3
  refine Exists.intro _ (And.intro Y.1.1 (Exists.intro 0 (Exists.intro 0 (And.intro (Nat.le_refl _) (And.intro (Nat.le_refl _) (m_leastTest hX Y.1 Y.2.1 (Y.f rfl f19) (Y.pg hD) hw ff3 hB0 hB1 (hst.hut Y) hsb (fun h3 fs3 u1 u2 u3 => ?_)))))))
  exact hP h3 fs3 (Y.tt.tr u1.tt) u2 u3
set_option maxHeartbeats 8000000 in
theorem m_least {l : Launch} {G : GG} {h : AH} {nx : Nat} {Post : Option Value → AH → Nat → Prop} {o d sb : Nat} {f : Int32} {D : DD} {fs : List Value} (hX : XC G ∧ TX l G) (hM : MA h o fs) (hS : SHm h o) (f19 : fs[19]? = some (.int (nI d))) (hD : MPg h o d D) (hw : WD D) (hst : MSt h o fs sb) (hsb : sb + 1 < 2 ^ 31) (hP : ∀ (h1 : AH) (fs1 : List Value), MTr h o fs h1 fs1 → MSt h1 o fs1 (sb + 1) → Post (some (.int (aLeast D f))) h1 nx) : Runs l G i_X12_least 0 0 [.ref o, .int f] h nx Post := by
  unfold aLeast at hP
  refine en_X12_least hX [] 40 rfl ?_
  refine Exists.intro _ (And.intro hM.1 (Exists.intro 0 (Exists.intro 0 (And.intro (Nat.le_refl _) (And.intro (Nat.le_refl _) (m_isFlaw hX hM f19 hD hw ?_))))))
  cases e : vFx (dK D) (dR D) (dow D) f with
  | false =>
    refine And.intro (fun cz => by first | exact absurd cz (by decide) | exact absurd (by decide) cz) (fun _ => ?_)
    obtain ⟨st, gs, s1, s2⟩ := hst
    have hP := hP h fs (MH.rf hM hS).tt ⟨st, gs, by omega, s2⟩
    rw [if_neg (by rw [e]; decide)] at hP
    exact And.intro rfl (hP)
  | true =>
    refine And.intro (fun _ => ?_) (fun cz => by first | exact absurd cz (by decide) | exact absurd (by decide) cz)
    refine Exists.intro _ (And.intro hM.1 (Exists.intro 0 (Exists.intro 0 (And.intro (Nat.le_refl _) (And.intro (Nat.le_refl _) (m_findsTest hX hM hS f19 hD hw e hst hsb (fun h1 fs1 y1 y2 y3 => ?_)))))))
    have hP := hP h1 fs1 y1 y3
    rw [if_pos e] at hP
    cases er : ltR D f.toNatClampNeg with
    | none =>
      rw [er] at hP y2
      refine Exists.intro _ (And.intro y1.1.1 (Exists.intro _ (And.intro y2 ?_)))
      refine And.intro (fun cz => by first | exact absurd cz (by decide) | exact absurd (by decide) cz) (fun _ => ?_)
      exact And.intro rfl (hP)
    | some p =>
      rw [er] at hP y2
      obtain ⟨k1, k2, k3⟩ := y2
      refine Exists.intro _ (And.intro y1.1.1 (Exists.intro _ (And.intro k1 ?_)))
      refine And.intro (fun _ => ?_) (fun cz => absurd cz (fun z => absurd (show nI p.1 < 0 from z ▸ (by decide)) (nI_pos (by omega))))
      refine Exists.intro _ (And.intro y1.1.1 (Exists.intro _ (And.intro k1 ?_)))
      exact And.intro rfl (hP)
set_option maxHeartbeats 8000000 in
theorem m_leastAct {l : Launch} {G : GG} {h : AH} {nx : Nat} {Post : Option Value → AH → Nat → Prop} {o d sb : Nat} {f i : Int32} {D : DD} {fs : List Value} (hX : XC G ∧ TX l G) (hM : MA h o fs) (hS : SHm h o) (f19 : fs[19]? = some (.int (nI d))) (hD : MPg h o d D) (hw : WD D) (hst : MSt h o fs sb) (hsb : sb + 1 < 2 ^ 31) (hP : ∀ (h1 : AH) (fs1 : List Value), MTr h o fs h1 fs1 → MSt h1 o fs1 (sb + 1) → Post (some (.int (aLeastAct D f i))) h1 nx) : Runs l G i_X12_leastAct 0 0 [.ref o, .int f, .int i] h nx Post := by
  unfold aLeastAct at hP
  refine en_X12_leastAct hX [] 40 rfl ?_
  refine Exists.intro _ (And.intro hM.1 (Exists.intro 0 (Exists.intro 0 (And.intro (Nat.le_refl _) (And.intro (Nat.le_refl _) (m_isFlaw hX hM f19 hD hw ?_))))))
  cases e : vFx (dK D) (dR D) (dow D) f with
  | false =>
    refine And.intro (fun cz => by first | exact absurd cz (by decide) | exact absurd (by decide) cz) (fun _ => ?_)
    obtain ⟨st, gs, s1, s2⟩ := hst
    have hP := hP h fs (MH.rf hM hS).tt ⟨st, gs, by omega, s2⟩
    rw [if_neg (by rw [e]; decide)] at hP
    exact And.intro rfl (hP)
  | true =>
    refine And.intro (fun _ => ?_) (fun cz => by first | exact absurd cz (by decide) | exact absurd (by decide) cz)
    refine Exists.intro _ (And.intro hM.1 (Exists.intro 0 (Exists.intro 0 (And.intro (Nat.le_refl _) (And.intro (Nat.le_refl _) (m_findsTest hX hM hS f19 hD hw e hst hsb (fun h1 fs1 y1 y2 y3 => ?_)))))))
    have hP := hP h1 fs1 y1 y3
    rw [if_pos e] at hP
    cases er : ltR D f.toNatClampNeg with
    | none =>
      rw [er] at hP y2
      refine Exists.intro _ (And.intro y1.1.1 (Exists.intro _ (And.intro y2 ?_)))
      refine Exists.intro 0 (Exists.intro 0 (And.intro (Nat.le_refl _) (And.intro (Nat.le_refl _) (c_in hX ?_))))
      rw [if_neg (show ¬ (0 ≤ i ∧ i ≤ -1 - 1) from fun z => absurd (Int32.le_trans z.1 z.2) (by decide))]
      refine And.intro (fun _ => ?_) (fun cz => by first | exact absurd cz (by decide) | exact absurd (by decide) cz)
      exact And.intro rfl (hP)
    | some p =>
      rw [er] at hP y2
      obtain ⟨k1, k2, g, k3, k4⟩ := y2
      refine Exists.intro _ (And.intro y1.1.1 (Exists.intro _ (And.intro k1 ?_)))
      refine Exists.intro 0 (Exists.intro 0 (And.intro (Nat.le_refl _) (And.intro (Nat.le_refl _) (c_in hX ?_))))
      unfold aAt at hP
      by_cases c1 : i < 0
      · rw [if_neg (fun z => absurd c1 (Int32.not_lt.mpr z.1))]
        simp only at hP
        rw [if_neg (fun z => absurd c1 (Int32.not_lt.mpr z.1))] at hP
        refine And.intro (fun _ => ?_) (fun cz => by first | exact absurd cz (by decide) | exact absurd (by decide) cz)
        exact And.intro rfl (hP)
      · obtain ⟨j, hj, rfl⟩ := nI_of c1
        simp only at hP
        by_cases c2 : j < p.1
        · rw [if_pos ⟨nI_pos' hj, nI_lt c2 (by omega)⟩, nI_clamp hj, ← k4 j c2] at hP
          rw [if_pos ⟨nI_pos' hj, by rw [show nI p.1 - 1 = nI (p.1 - 1) from nI_sub (b := 1) (by omega)]; exact nI_le (by omega) (by omega)⟩]
          refine And.intro (fun cz => by first | exact absurd cz (by decide) | exact absurd (by decide) cz) (fun _ => ?_)
          refine Exists.intro _ (And.intro y1.1.1 (Exists.intro _ (And.intro (y1.1.2.2 52 (by decide)) ?_)))
          refine Exists.intro _ (Exists.intro _ (And.intro k3 (And.intro (vp_in_nI (by omega) (by decide)) ?_)))
          rw [nI_clamp hj]
          exact And.intro rfl (hP)
        · rw [if_neg (fun z => absurd z.2 (nI_nlt (by omega) hj))] at hP
          rw [if_neg (fun z => by
            have z2 := z.2
            cases hd2 : p.1 with
            | zero =>
              rw [hd2] at z2
              exact absurd (Int32.le_trans (nI_pos' hj) z2) (by decide)
            | succ m =>
              rw [hd2, nI_pred] at z2
              exact absurd z2 (nI_ge (by omega) hj))]
          refine And.intro (fun _ => ?_) (fun cz => by first | exact absurd cz (by decide) | exact absurd (by decide) cz)
          exact And.intro rfl (hP)
