/-! x draws all circuits of a text -/
theorem okG_congr2 {wc wo wc' wo' : Nat → Int32} : ∀ (r : List Nat) (n : Nat), (∀ k, n ≤ k → k < n + nmE r → wc' k = wc k ∧ wo' k = wo k) → okG wc wo r n → okG wc' wo' r n
  | [], _, _, _ => True.intro
  | k :: r, n, h, ok => by
    have e : nmE (k :: r) = (if k = 2 then 1 else 0) + nmE r := rfl
    refine ⟨fun hk => ?_, okG_congr2 r _ (fun j h1 h2 => h j ?_ ?_) ok.2⟩
    · rw [if_pos hk] at e
      rw [(h n (Nat.le_refl n) (by omega)).1, (h n (Nat.le_refl n) (by omega)).2]
      exact ok.1 hk
    · split at h1 <;> omega
    · rw [e]
      split at h2
      · next hk => rw [if_pos hk]; omega
      · next hk => rw [if_neg hk]; omega
/-- the bit of a name in a circuit -/
def vcT (kd : Nat → Nat) (vl : Nat → Int64) (N j : Nat) : Nat := (zVr kd vl (toL kd N) (vl j)).getD 0
theorem cEd_s {kd : Nat → Nat} {N i : Nat} (hi : i < N) : cEd kd N i = if kd i = 12 then i else cEd kd N (i + 1) := by
  unfold cEd
  rw [show N - i = (N - (i + 1)) + 1 by omega]
  show i + (if kd i = 12 then 0 else cLn kd (N - (i + 1)) (i + 1) + 1) = _
  split <;> omega
/-- contacts and codes of the circuits that are drawn when the loop stands at token i -/
def kxT (kd : Nat → Nat) (N i : Nat) : Nat := if 10 ≤ zS (zz kd i) ∧ zT (zz kd i) ≠ 10 then zK (zz kd (cEd kd N i)) else zK (zz kd i)
def cxT (kd : Nat → Nat) (N i : Nat) : Nat := if 10 ≤ zS (zz kd i) ∧ zT (zz kd i) ≠ 10 then cEd kd N i else i
section KX
variable {kd : Nat → Nat} {N : Nat}
theorem cx_le (i : Nat) (hi : i ≤ N) : i ≤ cxT kd N i := by
  unfold cxT
  split
  · unfold cEd; omega
  · exact Nat.le_refl i
theorem kx_s (h : TXT kd N) {i : Nat} (hi : i < N) (h13 : kd i ≠ 13) : kxT kd N (i + 1) = kxT kd N i ∧ cxT kd N i ≤ cxT kd N (i + 1) := by
  obtain ⟨s, h1, h2, e, _⟩ := h.st hi
  have t10 := (zac h2 h1).2.2.2.2.2.2.2.2.2.2.1
  have q6 := (zac h2 h1).2.2.2.2.2.2.1
  have q4 := (zac h2 h1).2.2.2.2.2.2.2.1
  have w14 := (h.w (show i ≤ N by omega)).2.2.2.2.2.2.2.2.2.2.2.2.2.1
  have ce := cEd_s (kd := kd) hi
  have hge : i + 1 ≤ cEd kd N (i + 1) := by unfold cEd; omega
  have eS : zS (zz kd (i + 1)) = s := by rw [e, zA_S]
  have eT : zT (zz kd (i + 1)) = if zS (zz kd i) = 0 then kd i else zT (zz kd i) := by rw [e, zA_T]
  have eK : zK (zz kd (i + 1)) = if zC (zz kd i) = true ∧ kd i = 2 then zK (zz kd i) + 1 else zK (zz kd i) := by rw [e, zA_K]
  unfold kxT cxT
  by_cases c1 : 10 ≤ zS (zz kd i) ∧ zT (zz kd i) ≠ 10
  · have hf := zfr h2 c1.1 h1
    rw [if_pos c1, if_pos c1]
    rw [if_neg (by omega)] at eT
    by_cases c12 : kd i = 12
    · rw [if_pos c12] at ce
      rw [if_neg (by omega), if_neg (by omega), ce, eK, if_neg (by omega)]
      omega
    · rw [if_neg c12] at ce
      rw [if_pos (by omega), if_pos (by omega), ce]
      omega
  · rw [if_neg c1, if_neg c1]
    have nc : ¬ (10 ≤ zS (zz kd (i + 1)) ∧ zT (zz kd (i + 1)) ≠ 10) := by
      rw [eS, eT]
      rintro ⟨x1, x2⟩
      rcases t10 x1 with z | z | z | z
      · have := q4 z; omega
      · have := q6 z; omega
      · rw [if_neg (by omega)] at x2
        have := w14 (Or.inr z)
        omega
      · rw [if_neg (by omega)] at x2
        exact c1 ⟨z, x2⟩
    rw [if_neg nc, if_neg nc, eK, if_neg (fun z => c1 ⟨by have := (zC_S z.1).1; omega, (zC_S z.1).2⟩)]
    omega
theorem kx_13 (h : TXT kd N) {i : Nat} (hi : i < N) (h13 : kd i = 13) : kxT kd N i = zK (zz kd (i + 1)) ∧ cxT kd N i = i ∧ kxT kd N (i + 1) = zK (zz kd (i + 1)) + nmE (sqL kd (i + 1) (cLc kd N (i + 1))) ∧ cxT kd N (i + 1) = i + 1 + cLc kd N (i + 1) ∧ cEd kd N i = i + 1 + cLc kd N (i + 1) := by
  obtain ⟨q1, q2, q3, q4, q5, q6, q7, q8, q9⟩ := h.q13 hi h13
  have ce := cEd_s (kd := kd) hi
  rw [if_neg (by omega)] at ce
  obtain ⟨_, _, _, _, s5, _⟩ := seg_c h (show i + 1 ≤ N by omega) q2 q8
  have sk := (s5 _ (Nat.le_refl _)).2.2.2.2.2.2
  rw [if_neg (by omega)] at sk
  have e2 : cEd kd N (i + 1) = i + 1 + cLc kd N (i + 1) := rfl
  unfold kxT cxT
  rw [if_neg (by omega), if_neg (by omega), if_pos (by omega), if_pos (by omega), e2, sk, ce, e2, q6]
  exact ⟨rfl, rfl, rfl, rfl, rfl⟩
end KX
/-- a circuit that is drawn -/
def cirX (kd vc : Nat → Nat) (N tr j cc : Nat) (g3 g4 g5 g10 g18 gv gb gi wc wo : Nat → Int32) : Prop := ∃ c0, g4 (ownZ (zz kd j)) = nI c0 ∧ g5 (ownZ (zz kd j)) = nI (c0 + cLc kd N (j + 1)) ∧ c0 + cLc kd N (j + 1) ≤ cc ∧ (∀ x, x < cLc kd N (j + 1) → g3 (c0 + x) = nI (cdT kd vc (j + 1 + x))) ∧ g10 (ownZ (zz kd j)) = nI (zK (zz kd (j + 1))) ∧ (∀ k, zK (zz kd (j + 1)) ≤ k → k < zK (zz kd (j + 1)) + nmE (sqL kd (j + 1) (cLc kd N (j + 1))) → g18 k = nI (ownZ (zz kd j))) ∧ wiD kd vc tr (j + 1) (cLc kd N (j + 1)) (zK (zz kd (j + 1))) 0 gv gb gi ∧ okG wc wo (sqL kd (j + 1) (cLc kd N (j + 1))) (zK (zz kd (j + 1)))
/-- the drawing when the loop stands at token i -/
def drwX (h : AH) (d : Nat) (kd vc : Nat → Nat) (N i : Nat) (st : Nat → Nat) (sl : Nat → Nat → Nat) : Prop := ∃ (cc : Nat) (g2 g3 g4 g5 g10 g18 gv gb gi wc wo gc go ge : Nat → Int32), h d = some (.inr (0, dwF d (zI (zz kd N)) (zR (zz kd N)) (zL (zz kd N)) (kxT kd N i) 0 cc 0)) ∧ cc ≤ cxT kd N i ∧ h (d + 2) = some (.inl (0, 16, .inl g2)) ∧ h (d + 3) = some (.inl (0, 400, .inl g3)) ∧ h (d + 4) = some (.inl (0, 11, .inl g4)) ∧ h (d + 5) = some (.inl (0, 11, .inl g5)) ∧ h (d + 6) = some (.inr (10, wiF (d + 7) 40)) ∧ wiR h (d + 7) 40 gv gb gi wc wo gc go ge ∧ h (d + 10) = some (.inl (0, 11, .inl g10)) ∧ h (d + 18) = some (.inl (0, 40, .inl g18)) ∧ (∀ x, 6 ≤ x → x < 16 → g2 x = nI (st x) ∧ st x < 19) ∧ (∀ r, r < 6 → g2 r = nI (sl i r)) ∧ (∀ j, j < i → kd j = 13 → cirX kd vc N (trB (fun x => st (11 + x)) 5) j cc g3 g4 g5 g10 g18 gv gb gi wc wo) ∧ (∀ c, c < 11 → (∀ j, j < i → kd j = 13 → ownZ (zz kd j) ≠ c) → g4 c = 0 ∧ g5 c = 0)
/-- slows that are set when the loop stands at token i -/
def slI (kd : Nat → Nat) (vl : Nat → Int64) (i r : Nat) : Nat := match (List.range i).find? (slP kd r) with
  | some j => (vl j).toInt.toNat
  | none => 0
theorem slI_s {kd : Nat → Nat} {vl : Nat → Int64} {N i r : Nat} (h : TXT kd N) (hi : i < N) : slI kd vl (i + 1) r = if slP kd r i = true then (vl i).toInt.toNat else slI kd vl i r := by
  have hun : slP kd r i = true → (List.range i).find? (slP kd r) = none := fun hp => by
    rw [List.find?_eq_none]
    intro j hj hp2
    have hj := List.mem_range.mp hj
    unfold slP at hp hp2
    have a := and2.mp hp
    have b := and2.mp hp2
    have := un5 h hi (show j < N by omega) (of_decide_eq_true a.1) (of_decide_eq_true b.1) (by have x := of_decide_eq_true a.2; have y := of_decide_eq_true b.2; omega)
    omega
  unfold slI
  rw [List.range_succ, List.find?_append]
  by_cases hp : slP kd r i = true
  · rw [if_pos hp, hun hp]
    show (match ([i].find? (slP kd r)) with | some j => (vl j).toInt.toNat | none => 0) = _
    rw [List.find?_cons, hp]
  · rw [if_neg hp]
    cases hf : (List.range i).find? (slP kd r) with
    | some j => rfl
    | none =>
      show (match ([i].find? (slP kd r)) with | some j => (vl j).toInt.toNat | none => 0) = _
      rw [List.find?_cons, show slP kd r i = false by cases hh : slP kd r i with | true => exact absurd hh hp | false => rfl]
      rfl
/-- codes in a circuit, as they are and as they are wired -/
theorem cdT_c {kd : Nat → Nat} {vl : Nat → Int64} {N i : Nat} (h : TXT kd N) (hF : ∀ i, i < N → fX kd vl N i = 0) (hi : i < N) (h10 : 10 ≤ zS (zz kd i)) : cfJ kd vl N N i = nI (cdT kd (vcT kd vl N) i) ∧ (kd i = 2 → vcT kd vl N i < 11) := by
  obtain ⟨s, h1, h2, _, _⟩ := h.st hi
  have hz := zfr h2 h10 h1
  obtain ⟨_, _, _, b1, b2, _⟩ := h.w (Nat.le_refl N)
  by_cases k2 : kd i = 2
  · obtain ⟨v, hv⟩ := named_c h hF hi (by omega) k2
    have hq : zQ kd i = true := by
      unfold zQ
      rw [decide_eq_true k2, Bool.true_and, Bool.or_eq_true, decide_eq_true_eq, decide_eq_true_eq]
      omega
    unfold cfJ cdT vcT
    rw [if_pos ⟨hi, hq⟩, if_pos k2, hv]
    refine ⟨rfl, fun _ => ?_⟩
    show v < 11
    rcases zVr_c h hv with ⟨t, a1, a2, a3, a4, a5⟩ | ⟨t, a1, a2, a3, a4, a5⟩ <;> omega
  · unfold cfJ cdT
    rw [if_neg (fun z => by
      have z2 := z.2
      unfold zQ at z2
      rw [decide_eq_false k2, Bool.false_and] at z2
      cases z2), if_neg k2]
    exact ⟨rfl, fun z => absurd z k2⟩
set_option maxHeartbeats 8000000 in
theorem x_drawCircuits {l : Launch} {G : GG} {h : AH} {nx : Nat} {Post : Option Value → AH → Nat → Prop} {r d N : Nat} {pl : Int32} {z : ZT} {kd pf : Nat → Nat} {vl : Nat → Int64} {st : Nat → Nat} (hX : XC G ∧ TX l G) (hr : h r = some (.inr (6, rdO r N pl z))) (hA : rwA h r N kd pf vl (cfJ kd vl N N)) (hT : TXT kd N) (hN : N ≤ 400) (hF : ∀ i, i < N → fX kd vl N i = 0) (hv3 : ∀ i, kd i = 3 → ∃ q, q < 10000 ∧ vl i = lN q) (hv2 : ∀ i, kd i = 2 → 0 < vl i) (hD : drwX h d kd (vcT kd vl N) N 0 st (slI kd vl)) (hrd : r + 12 ≤ d) (hP : ∀ h1 : AH, (∀ x, x < d ∨ x = d + 1 ∨ (d + 11 ≤ x ∧ x < d + 13) ∨ d + 19 ≤ x → h1 x = h x) → drwX h1 d kd (vcT kd vl N) N N st (slI kd vl) → Post none h1 nx) : Runs l G i_X6_drawCircuits 0 0 [.ref r, .ref d] h nx Post := by
  obtain ⟨g4, g5, g6, g8, g7, a4, a5, a6, a7, a8, pa⟩ := id hA
  have loop : ∀ (m i : Nat) (h1 : AH) (ol : Bool), i + m = N → (∀ x, x < d ∨ x = d + 1 ∨ (d + 11 ≤ x ∧ x < d + 13) ∨ d + 19 ≤ x → h1 x = h x) → drwX h1 d kd (vcT kd vl N) N i st (slI kd vl) → ((zS (zz kd i) = 4 ∨ zS (zz kd i) = 5 ∨ zS (zz kd i) = 6) → ol = decide (zT (zz kd i) ≠ 6)) → Go l G 6 s_X6_drawCircuits 0 0 Post 10 [(5, .int (nI i)), (4, .int (nI ol.toNat)), (3, .int (nI (zL (zz kd i)) - 1)), (2, .int (nI (zR (zz kd i)) - 1)), (0, .ref r), (1, .ref d)] [] h1 nx 0 0 := by
    intro m
    induction m with
    | zero =>
      intro i h1 ol hi f1 D ho
      have e : i = N := by omega
      have hr1 := (f1 r (by omega)).trans hr
      refine Go.of hX.2 ck_X6_drawCircuits [] 20 ?_
      refine Exists.intro _ (And.intro hr1 (Exists.intro _ (And.intro rfl ?_)))
      refine And.intro (fun _ => ?_) (fun cz => absurd (nI_le (a := N) (b := i) (by omega) (by omega)) cz)
      rw [e] at D
      exact hP h1 f1 D
    | succ m ih =>
      intro i h1 ol hi f1 D ho
      have hiN : i < N := by omega
      have hr1 := (f1 r (by omega)).trans hr
      obtain ⟨s, h1', h2', e, _⟩ := hT.st hiN
      have to := zto h2' h1'
      have ac := zac h2' h1'
      obtain ⟨_, _, _, _, b5, b6, _, _, w9, w10, w11, w12, w13, w14, w15, _⟩ := hT.w (show i ≤ N by omega)
      have eS : zS (zz kd (i + 1)) = s := by rw [e, zA_S]
      have eT : zT (zz kd (i + 1)) = if zS (zz kd i) = 0 then kd i else zT (zz kd i) := by rw [e, zA_T]
      have eR : zR (zz kd (i + 1)) = if zS (zz kd i) = 3 ∧ kd i = 2 then zR (zz kd i) + 1 else zR (zz kd i) := by rw [e, zA_R]
      have eL : zL (zz kd (i + 1)) = if zS (zz kd i) = 7 ∧ kd i = 2 then zL (zz kd i) + 1 else zL (zz kd i) := by rw [e, zA_L]
      obtain ⟨p4, p5, p6, p7, p8⟩ := pa i hiN
      have hs13 := h2'
      have hk19 := hT.1 i
      have sne : ∀ j, j < 100 → zS (zz kd i) ≠ j → ¬ nI (zS (zz kd i)) = nI j := fun j hj z e => z ((nI_eq (by omega) (by omega)).mp e)
      have k5 := (f1 (r + 5) (by omega)).trans a5
      have k4 := (f1 (r + 4) (by omega)).trans a4
      have k7 := (f1 (r + 7) (by omega)).trans a7
      have k8 := (f1 (r + 8) (by omega)).trans a8
      have keep : kd i ≠ 13 → zS (zz kd i) ≠ 5 → drwX h1 d kd (vcT kd vl N) N (i + 1) st (slI kd vl) := fun n13 n5 => by
        obtain ⟨cc, y2, y3, y4, y5, y10, y18, v1, v2, v3, v4, v5, v6, v7, v8, z0, z1, z2, z3, z4, z5, z6, z7, z10, z18, t1, t2, t3, t4⟩ := D
        obtain ⟨x1, x2⟩ := kx_s hT hiN n13
        refine ⟨cc, y2, y3, y4, y5, y10, y18, v1, v2, v3, v4, v5, v6, v7, v8, by rw [x1]; exact z0, by omega, z2, z3, z4, z5, z6, z7, z10, z18, t1, fun q hq => ?_, fun j hj hk => t3 j (by
          have : j ≠ i := fun e => n13 (e ▸ hk)
          omega) hk, fun c hc hno => t4 c hc (fun j hj hk => hno j (by omega) hk)⟩
        rw [t2 q hq, slI_s hT hiN, if_neg (fun hp => by unfold slP at hp; exact n5 (of_decide_eq_true (and2.mp hp).1))]
      have nxt : ∀ (h2 : AH) (ol' : Bool) (x3 x2 : Int32), x3 = nI (zL (zz kd (i + 1))) - 1 → x2 = nI (zR (zz kd (i + 1))) - 1 → (∀ x, x < d ∨ x = d + 1 ∨ (d + 11 ≤ x ∧ x < d + 13) ∨ d + 19 ≤ x → h2 x = h x) → drwX h2 d kd (vcT kd vl N) N (i + 1) st (slI kd vl) → ((s = 4 ∨ s = 5 ∨ s = 6) → ol' = decide (zT (zz kd (i + 1)) ≠ 6)) → Go l G 6 s_X6_drawCircuits 0 0 Post 138 [(5, .int (nI i)), (4, .int (nI ol'.toNat)), (3, .int x3), (2, .int x2), (0, .ref r), (1, .ref d)] [] h2 nx 0 0 := by
        intro h2 ol' x3 x2 e3 e2 y1 y2 y3
        subst e3
        subst e2
        have := ih (i + 1) h2 ol' (by omega) y1 y2 (by rw [eS]; exact y3)
        rw [nI_succ i] at this
        refine Go.of hX.2 ck_X6_drawCircuits [10] 5 ?_
        exact go_loc (lv' := [(5, .int (nI i + 1)), (4, .int (nI ol'.toNat)), (3, .int (nI (zL (zz kd (i + 1))) - 1)), (2, .int (nI (zR (zz kd (i + 1))) - 1)), (0, .ref r), (1, .ref d)]) ⟨rfl, rfl, rfl, rfl, rfl, rfl, trivial⟩ (this)
      have inc : ∀ x : Nat, nI x - 1 + 1 = nI (x + 1) - 1 := fun x => by rw [nI_succ, Int32.sub_add_cancel, Int32.add_sub_cancel]
      refine Go.of hX.2 ck_X6_drawCircuits [138] 90 ?_
      refine Exists.intro _ (And.intro hr1 (Exists.intro _ (And.intro rfl ?_)))
      refine And.intro (fun cz => absurd cz (nI_ge (a := i) (b := N) hiN (by omega))) (fun _ => ?_)
      refine And.intro (fun cz => absurd cz (nI_ge (a := i) (b := 400) (by omega) (by decide))) (fun _ => ?_)
      refine Exists.intro _ (And.intro hr1 (Exists.intro _ (And.intro rfl ?_)))
      refine Exists.intro _ (Exists.intro _ (And.intro k5 (And.intro (vp_in_nI (show i < 400 by omega) (by decide)) ?_)))
      rw [nI_clamp (show i < 2 ^ 31 by omega), p5]
      by_cases c3 : zS (zz kd i) = 3
      · have k2 := (hT.s3 hiN c3).1
        rw [if_pos ⟨c3, k2⟩] at eR
        rw [if_neg (by omega)] at eL eT
        refine And.intro (fun cz => absurd (show nI (zS (zz kd i)) = nI 3 from by rw [c3]) cz) (fun _ => ?_)
        refine go_loc (lv' := [(5, .int (nI i)), (4, .int (nI false.toNat)), (3, .int (nI (zL (zz kd i)) - 1)), (2, .int (nI (zR (zz kd i)) - 1 + 1)), (0, .ref r), (1, .ref d)]) ⟨rfl, rfl, rfl, rfl, rfl, rfl, trivial⟩ ?_
        refine nxt h1 false _ _ (by rw [eL]) (by rw [eR, inc]) f1 (keep (by omega) (by omega)) (fun _ => ?_)
        rw [eT, w11 (Or.inl c3)]
        rfl
      · rw [if_neg (fun z => c3 z.1)] at eR
        refine And.intro (fun _ => ?_) (fun cz => absurd cz (sne 3 (by decide) c3))
        refine Exists.intro _ (And.intro hr1 (Exists.intro _ (And.intro rfl ?_)))
        refine Exists.intro _ (Exists.intro _ (And.intro k5 (And.intro (vp_in_nI (show i < 400 by omega) (by decide)) ?_)))
        rw [nI_clamp (show i < 2 ^ 31 by omega), p5]
        by_cases c7 : zS (zz kd i) = 7
        · have k2 := (hT.s7 hiN c7).1
          rw [if_pos ⟨c7, k2⟩] at eL
          rw [if_neg (by omega)] at eT
          refine And.intro (fun cz => absurd (show nI (zS (zz kd i)) = nI 7 from by rw [c7]) cz) (fun _ => ?_)
          refine go_loc (lv' := [(5, .int (nI i)), (4, .int (nI true.toNat)), (3, .int (nI (zL (zz kd i)) - 1 + 1)), (2, .int (nI (zR (zz kd i)) - 1)), (0, .ref r), (1, .ref d)]) ⟨rfl, rfl, rfl, rfl, rfl, rfl, trivial⟩ ?_
          refine nxt h1 true _ _ (by rw [eL, inc]) (by rw [eR]) f1 (keep (by omega) (by omega)) (fun _ => ?_)
          have := w13 c7
          rw [eT]
          exact (decide_eq_true (by omega)).symm
        · rw [if_neg (fun z => c7 z.1)] at eL
          refine And.intro (fun _ => ?_) (fun cz => absurd cz (sne 7 (by decide) c7))
          refine Exists.intro _ (And.intro hr1 (Exists.intro _ (And.intro rfl ?_)))
          refine Exists.intro _ (Exists.intro _ (And.intro k5 (And.intro (vp_in_nI (show i < 400 by omega) (by decide)) ?_)))
          rw [nI_clamp (show i < 2 ^ 31 by omega), p5]
          by_cases c5 : zS (zz kd i) = 5
          · obtain ⟨k3, r1, t6⟩ := hT.s5 hiN c5
            obtain ⟨q, hq, eq⟩ := hv3 i k3
            obtain ⟨cc, y2, y3, y4, y5, y10, y18, v1, v2, v3, v4, v5, v6, v7, v8, z0, z1, z2, z3, z4, z5, z6, z7, z10, z18, t1, t2, t3, t4⟩ := D
            obtain ⟨R', eR'⟩ : ∃ x, zR (zz kd i) = x + 1 := ⟨zR (zz kd i) - 1, by omega⟩
            rw [if_neg (by omega)] at eT
            obtain ⟨x1, x2⟩ := kx_s hT hiN (show kd i ≠ 13 by omega)
            refine And.intro (fun cz => absurd (show nI (zS (zz kd i)) = nI 5 from by rw [c5]) cz) (fun _ => ?_)
            refine Exists.intro _ (And.intro hr1 (Exists.intro _ (And.intro rfl ?_)))
            refine Exists.intro _ (Exists.intro _ (And.intro k7 (And.intro (vp_in_nI (show i < 400 by omega) (by decide)) ?_)))
            rw [nI_clamp (show i < 2 ^ 31 by omega), p7, eq]
            refine Exists.intro _ (And.intro z0 (Exists.intro 0 (Exists.intro 0 (And.intro (Nat.le_refl _) (And.intro (Nat.le_refl _) ?_)))))
            rw [lN_i, eR', nI_pred]
            refine x_setSlow hX z0 rfl z2 (by omega) ?_
            refine go_loc (lv' := [(5, .int (nI i)), (4, .int (nI ol.toNat)), (3, .int (nI (zL (zz kd i)) - 1)), (2, .int (nI R')), (0, .ref r), (1, .ref d)]) ⟨rfl, rfl, rfl, rfl, rfl, rfl, trivial⟩ ?_
            have un : ∀ {A : AE} x, x ≠ d + 2 → uph h1 (d + 2) A x = h1 x := fun x hx => uph_ne hx
            refine nxt _ ol _ _ (by rw [eL]) (by rw [eR, eR', nI_pred]) (fun x hx => (un x (by omega)).trans (f1 x hx)) ⟨cc, _, y3, y4, y5, y10, y18, v1, v2, v3, v4, v5, v6, v7, v8, (un _ (by omega)).trans (by rw [x1]; exact z0), by omega, uph_eq, (un _ (by omega)).trans z3, (un _ (by omega)).trans z4, (un _ (by omega)).trans z5, (un _ (by omega)).trans z6, ?_, (un _ (by omega)).trans z10, (un _ (by omega)).trans z18, fun x hx1 hx2 => by rw [pk_un (by omega)]; exact t1 x hx1 hx2, fun q2 hq2 => ?_, fun j hj hk => t3 j (by
              have : j ≠ i := fun e => by rw [e] at hk; omega
              omega) hk, fun c hc hno => t4 c hc (fun j hj hk => hno j (by omega) hk)⟩ (fun _ => by rw [eT]; exact ho (Or.inr (Or.inl c5)))
            · obtain ⟨r6, r7, r8, r9, r10, r0, r1', r2⟩ := z7
              exact ⟨(un _ (by omega)).trans r6, (un _ (by omega)).trans r7, (un _ (by omega)).trans r8, (un _ (by omega)).trans r9, (un _ (by omega)).trans r10, (un _ (by omega)).trans r0, (un _ (by omega)).trans r1', (un _ (by omega)).trans r2⟩
            · rw [slI_s hT hiN]
              by_cases c : q2 = R'
              · rw [c, pk_us, if_pos (by unfold slP; rw [decide_eq_true c5, decide_eq_true eR']; rfl), eq, lN_toInt (by omega)]
                rfl
              · rw [pk_un c, if_neg (fun hp => by unfold slP at hp; have := of_decide_eq_true (and2.mp hp).2; omega)]
                exact t2 q2 hq2
          · refine And.intro (fun _ => ?_) (fun cz => absurd cz (sne 5 (by decide) c5))
            refine Exists.intro _ (And.intro hr1 (Exists.intro _ (And.intro rfl ?_)))
            refine Exists.intro _ (Exists.intro _ (And.intro k4 (And.intro (vp_in_nI (show i < 400 by omega) (by decide)) ?_)))
            rw [nI_clamp (show i < 2 ^ 31 by omega), p4]
            by_cases c13 : kd i = 13
            · obtain ⟨q1, q2, q3, q4, q5, q6, q7, q8, q9⟩ := hT.q13 hiN c13
              obtain ⟨kx1, cx1, kx2, cx2, ce⟩ := kx_13 hT hiN c13
              obtain ⟨s1, s2, s3, s4, s5, s6⟩ := seg_c hT (show i + 1 ≤ N by omega) q2 q8
              have sk := (s5 _ (Nat.le_refl _)).2.2.2.2.2.2
              rw [if_neg (by omega)] at sk
              have w40 := (hT.w (show i + 1 + cLc kd N (i + 1) ≤ N by omega)).2.2.2.2.2.2.2.1
              obtain ⟨cc, y2, y3, y4, y5, y10, y18, v1, v2, v3, v4, v5, v6, v7, v8, z0, z1, z2, z3, z4, z5, z6, z7, z10, z18, t1, t2, t3, t4⟩ := D
              have hc11 : ownZ (zz kd i) < 11 := by unfold ownZ; split <;> omega
              have hcod : codesAt h1 (r + 8) kd (vcT kd vl N) (i + 1) (cLc kd N (i + 1)) := ⟨g8, k8, by omega, fun j hj => by
                have cd := cdT_c hT hF (show i + 1 + j < N by omega) (s5 j (by omega)).2.2.2.2.2.1
                exact ⟨(pa _ (by omega)).2.2.2.2.trans cd.1, fun hk => by have := cd.2 hk; omega, hT.1 _⟩⟩
              rw [kx1] at z0
              rw [if_neg (by omega)] at eT
              have s10 : s = 10 := (ac.1 c13).2
              have fin : ∀ (h3 : AH) (g3' g18' gv' gb' gi' wc' wo' gc' go' ge' : Nat → Int32), (∀ x, x < d ∨ (d < x ∧ x < d + 3) ∨ (d + 11 ≤ x ∧ x < d + 13) ∨ d + 19 ≤ x → h3 x = h1 x) → h3 (d + 6) = h1 (d + 6) → h3 d = some (.inr (0, dwF d (zI (zz kd N)) (zR (zz kd N)) (zL (zz kd N)) (zK (zz kd (i + 1)) + nmE (sqL kd (i + 1) (cLc kd N (i + 1)))) 0 (cc + cLc kd N (i + 1)) 0)) → h3 (d + 3) = some (.inl (0, 400, .inl g3')) → (∀ j, j < cLc kd N (i + 1) → g3' (cc + j) = nI (cdT kd (vcT kd vl N) (i + 1 + j))) → (∀ x, x < cc → g3' x = y3 x) → h3 (d + 4) = some (.inl (0, 11, .inl (upd y4 (ownZ (zz kd i)) (nI cc)))) → h3 (d + 5) = some (.inl (0, 11, .inl (upd y5 (ownZ (zz kd i)) (nI (cc + cLc kd N (i + 1)))))) → h3 (d + 10) = some (.inl (0, 11, .inl (upd y10 (ownZ (zz kd i)) (nI (zK (zz kd (i + 1))))))) → h3 (d + 18) = some (.inl (0, 40, .inl g18')) → (∀ k, zK (zz kd (i + 1)) ≤ k → k < zK (zz kd (i + 1)) + nmE (sqL kd (i + 1) (cLc kd N (i + 1))) → g18' k = nI (ownZ (zz kd i))) → (∀ k, k < zK (zz kd (i + 1)) → g18' k = y18 k) → wiR h3 (d + 7) 40 gv' gb' gi' wc' wo' gc' go' ge' → wiD kd (vcT kd vl N) (trB (fun x => st (11 + x)) 5) (i + 1) (cLc kd N (i + 1)) (zK (zz kd (i + 1))) 0 gv' gb' gi' → okG wc' wo' (sqL kd (i + 1) (cLc kd N (i + 1))) (zK (zz kd (i + 1))) → sam (zK (zz kd (i + 1))) (zK (zz kd (i + 1)) + nmE (sqL kd (i + 1) (cLc kd N (i + 1)))) v1 gv' → sam (zK (zz kd (i + 1))) (zK (zz kd (i + 1)) + nmE (sqL kd (i + 1) (cLc kd N (i + 1)))) v2 gb' → sam (zK (zz kd (i + 1))) (zK (zz kd (i + 1)) + nmE (sqL kd (i + 1) (cLc kd N (i + 1)))) v3 gi' → sam (zK (zz kd (i + 1))) (zK (zz kd (i + 1)) + nmE (sqL kd (i + 1) (cLc kd N (i + 1)))) v4 wc' → sam (zK (zz kd (i + 1))) (zK (zz kd (i + 1)) + nmE (sqL kd (i + 1) (cLc kd N (i + 1)))) v5 wo' → Go l G 6 s_X6_drawCircuits 0 0 Post 138 [(5, .int (nI i)), (4, .int (nI ol.toNat)), (3, .int (nI (zL (zz kd i)) - 1)), (2, .int (nI (zR (zz kd i)) - 1)), (0, .ref r), (1, .ref d)] [] h3 nx 0 0 := by
                intro h3 g3' g18' gv' gb' gi' wc' wo' gc' go' ge' b1 b2 b3 b4 b5' b6' b7 b8 b9 b10 b11 b12 b13 b14 b15 b16 b17 b18 b19 b20
                refine nxt h3 ol _ _ (by rw [eL]) (by rw [eR]) (fun x hx => (b1 x (by omega)).trans (f1 x hx)) ⟨cc + cLc kd N (i + 1), y2, g3', _, _, _, g18', gv', gb', gi', wc', wo', gc', go', ge', by rw [kx2]; exact b3, by rw [cx2]; omega, (b1 _ (by omega)).trans z2, b4, b7, b8, b2.trans z6, b13, b9, b10, t1, fun q hq => ?_, fun j hj hk => ?_, fun c hc hno => ?_⟩ (fun z => by omega)
                · rw [slI_s hT hiN, if_neg (fun hp => by unfold slP at hp; exact c5 (of_decide_eq_true (and2.mp hp).1))]
                  exact t2 q hq
                · by_cases ej : j = i
                  · subst ej
                    exact ⟨cc, pk_us, pk_us, Nat.le_refl _, b5', pk_us, b11, b14, b15⟩
                  · obtain ⟨c0, u1, u2, u3, u4, u5, u6, u7, u8⟩ := t3 j (by omega) hk
                    obtain ⟨r1, r2, r3, r4, r5, r6, r7, r8, r9⟩ := hT.q13 (show j < N by omega) hk
                    obtain ⟨p1, p2, p3, p4', p5', p6'⟩ := seg_c hT (show j + 1 ≤ N by omega) r2 r8
                    have pk := (p5' _ (Nat.le_refl _)).2.2.2.2.2.2
                    rw [if_neg (by omega)] at pk
                    have nowner : ownZ (zz kd j) ≠ ownZ (zz kd i) := fun e => ej (hT.un13 (by omega) hiN hk c13 e)
                    have far : j + 1 + cLc kd N (j + 1) ≤ i := by
                      rcases Nat.lt_or_ge i (j + 1 + cLc kd N (j + 1)) with y | y
                      · exfalso
                        have := (p5' (i - (j + 1)) (by omega)).2.2.2.2.2.1
                        rw [show j + 1 + (i - (j + 1)) = i by omega] at this
                        omega
                      · exact y
                    have mK := (hT.mo far (show i ≤ N by omega)).2.2.2.2
                    have le1 : zK (zz kd (j + 1)) + nmE (sqL kd (j + 1) (cLc kd N (j + 1))) ≤ zK (zz kd (i + 1)) := by omega
                    refine ⟨c0, by rw [pk_un nowner]; exact u1, by rw [pk_un nowner]; exact u2, by omega, fun x hx => by rw [b6' _ (by omega)]; exact u4 x hx, by rw [pk_un nowner]; exact u5, fun k k1 k2 => by rw [b12 k (by omega)]; exact u6 k k1 k2, fun x x1 x2 x3 => ?_, okG_congr2 _ _ (fun k k1 k2 => ⟨b19 k (Or.inl (by omega)), b20 k (Or.inl (by omega))⟩) u8⟩
                    have hx1 := nmE_mo (kd := kd) (a := j + 1) (show x + 1 ≤ cLc kd N (j + 1) by omega)
                    rw [nmE_s, if_pos x3] at hx1
                    rw [b16 _ (Or.inl (by omega)), b17 _ (Or.inl (by omega)), b18 _ (Or.inl (by omega))]
                    exact u7 x x1 x2 x3
                · have hne : c ≠ ownZ (zz kd i) := fun e => hno i (by omega) c13 e.symm
                  rw [pk_un hne, pk_un hne]
                  exact t4 c hc (fun j hj hk => hno j (by omega) hk)
              refine And.intro (fun cz => absurd (show nI (kd i) = nI 13 from by rw [c13]) cz) (fun _ => ?_)
              have hol := ho (by omega)
              have e1 : nI i + 1 = nI (i + 1) := (nI_succ i).symm
              rcases q9 with ⟨t6, r1, r2⟩ | ⟨t89, st6, l1, l2⟩
              · rw [decide_eq_false (p := zT (zz kd i) ≠ 6) (fun z => z t6)] at hol
                subst hol
                have eo : nI (zR (zz kd i)) - 1 = nI (ownZ (zz kd i)) := by
                  obtain ⟨x, ex⟩ : ∃ x, zR (zz kd i) = x + 1 := ⟨zR (zz kd i) - 1, by omega⟩
                  unfold ownZ
                  rw [if_pos t6, ex, nI_pred]
                  rfl
                refine And.intro (fun _ => ?_) (fun cz => by first | exact absurd cz (by decide) | exact absurd (by decide) cz)
                refine Exists.intro _ (And.intro hr1 (Exists.intro _ (And.intro rfl ?_)))
                refine Exists.intro _ (And.intro hr1 (Exists.intro 0 (Exists.intro 0 (And.intro (Nat.le_refl _) (And.intro (Nat.le_refl _) (x_circuitEnd hX hr1 k4 (fun j hj => (pa j hj).1) hT.1 hN (by omega) ?_))))))
                refine Exists.intro _ (And.intro z0 (Exists.intro 0 (Exists.intro 0 (And.intro (Nat.le_refl _) (And.intro (Nat.le_refl _) ?_)))))
                rw [eo, e1, ce]
                refine x_addCircuit (kd := kd) (vc := vcT kd vl N) (st := fun x => st (11 + x)) hX z0 z2 z3 z4 z5 z6 z7 z10 z18 (fun x hx => t1 (11 + x) (by omega) (by omega)) hcod (by omega) hc11 (by omega) (by omega) s6 (by omega) (fun h3 g3' g18' gv' gb' gi' wc' wo' gc' go' ge' b1 b2 b3 b4 b5' b6' b7 b8 b9 b10 b11 b12 b13 b14 b15 b16 b17 b18 b19 b20 => ?_)
                have fz := fin h3 g3' g18' gv' gb' gi' wc' wo' gc' go' ge' b1 b2 b3 b4 b5' b6' b7 b8 b9 b10 b11 b12 b13 b14 b15 b16 b17 b18 b19 b20
                rw [eo] at fz
                exact go_loc (lv' := [(5, .int (nI i)), (4, .int (nI false.toNat)), (3, .int (nI (zL (zz kd i)) - 1)), (2, .int (nI (ownZ (zz kd i)))), (0, .ref r), (1, .ref d)]) ⟨rfl, rfl, rfl, rfl, rfl, rfl, trivial⟩ fz
              · rw [decide_eq_true (p := zT (zz kd i) ≠ 6) (by omega)] at hol
                subst hol
                have eo : (6 : Int32) + (nI (zL (zz kd i)) - 1) = nI (ownZ (zz kd i)) := by
                  obtain ⟨x, ex⟩ : ∃ x, zL (zz kd i) = x + 1 := ⟨zL (zz kd i) - 1, by omega⟩
                  unfold ownZ
                  rw [if_neg (by omega), ex, nI_pred, show (6 : Int32) = nI 6 from rfl, nI_add]
                  rfl
                refine And.intro (fun cz => by first | exact absurd cz (by decide) | exact absurd (by decide) cz) (fun _ => ?_)
                refine Exists.intro _ (And.intro hr1 (Exists.intro _ (And.intro rfl ?_)))
                refine Exists.intro _ (And.intro hr1 (Exists.intro 0 (Exists.intro 0 (And.intro (Nat.le_refl _) (And.intro (Nat.le_refl _) (x_circuitEnd hX hr1 k4 (fun j hj => (pa j hj).1) hT.1 hN (by omega) ?_))))))
                refine Exists.intro _ (And.intro z0 (Exists.intro 0 (Exists.intro 0 (And.intro (Nat.le_refl _) (And.intro (Nat.le_refl _) ?_)))))
                rw [eo, e1, ce]
                refine x_addCircuit (kd := kd) (vc := vcT kd vl N) (st := fun x => st (11 + x)) hX z0 z2 z3 z4 z5 z6 z7 z10 z18 (fun x hx => t1 (11 + x) (by omega) (by omega)) hcod (by omega) hc11 (by omega) (by omega) s6 (by omega) (fun h3 g3' g18' gv' gb' gi' wc' wo' gc' go' ge' b1 b2 b3 b4 b5' b6' b7 b8 b9 b10 b11 b12 b13 b14 b15 b16 b17 b18 b19 b20 => ?_)
                exact go_loc (lv' := [(5, .int (nI i)), (4, .int (nI true.toNat)), (3, .int (nI (zL (zz kd i)) - 1)), (2, .int (nI (zR (zz kd i)) - 1)), (0, .ref r), (1, .ref d)]) ⟨rfl, rfl, rfl, rfl, rfl, rfl, trivial⟩ (fin h3 g3' g18' gv' gb' gi' wc' wo' gc' go' ge' b1 b2 b3 b4 b5' b6' b7 b8 b9 b10 b11 b12 b13 b14 b15 b16 b17 b18 b19 b20)
            · refine And.intro (fun _ => ?_) (fun cz => absurd cz (fun z => c13 ((nI_eq (by omega) (by decide)).mp (show nI (kd i) = nI 13 from z))))
              refine go_loc (lv' := [(5, .int (nI i)), (4, .int (nI ol.toNat)), (3, .int (nI (zL (zz kd i)) - 1)), (2, .int (nI (zR (zz kd i)) - 1)), (0, .ref r), (1, .ref d)]) ⟨rfl, rfl, rfl, rfl, rfl, rfl, trivial⟩ ?_
              refine nxt h1 ol _ _ (by rw [eL]) (by rw [eR]) f1 (keep c13 c5) (fun hs => ?_)
              have q4 := ac.2.2.2.2.2.2.2.1
              rcases hs with z | z | z
              · have := to.1 z; omega
              · have := to.2.1 z
                rw [eT, if_neg (by omega)]
                exact ho (Or.inl this.1)
              · have := to.2.2.1 z; omega
  refine en_X6_drawCircuits hX [10] 20 rfl ?_
  exact go_loc (lv' := [(5, .int (nI 0)), (4, .int (nI false.toNat)), (3, .int (nI 0 - 1)), (2, .int (nI 0 - 1)), (0, .ref r), (1, .ref d)]) ⟨rfl, rfl, rfl, rfl, rfl, rfl, trivial⟩ (loop N 0 h false (Nat.zero_add _) (fun _ _ => rfl) hD (fun z => absurd (show (0 : Nat) = 4 ∨ (0 : Nat) = 5 ∨ (0 : Nat) = 6 from z) (by decide)))
