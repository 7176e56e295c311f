/-! x goes through what is reached: place by place -/
theorem wA_val (W : Nat → Bool) (row : Nat → Nat) : ∀ k, wA W row k = -1 ∨ ∃ j, j < k ∧ wA W row k = nI j
  | 0 => Or.inl rfl
  | k + 1 => by
    unfold wA
    split
    · exact Or.inr ⟨k, Nat.lt_succ_self k, rfl⟩
    · rcases wA_val W row k with h | ⟨j, hj, h⟩
      · exact Or.inl h
      · exact Or.inr ⟨j, by omega, h⟩
theorem CX.wa {h1 : AH} {v u qq qo qn : Nat} {fs : List Value} {S : BS} {wa wb ver cm : Int32} {gq go : Nat → Int32} {gs : Nat → Int64} (hC : CX h1 v u fs qq qo qn S wa ver cm gq go gs) : CX (uph h1 v (.inr (7, fs.set 6 (.int wb)))) v u (fs.set 6 (.int wb)) qq qo qn S wb ver cm gq go gs := by
  obtain ⟨c0, c9, c1, c2, c3, c4, c5, c6, c7, c8, c10, r1, r2, r3⟩ := hC
  have nv1 : qq ≠ v := fun e => by rw [e, c0] at r1; cases r1
  have nv2 : qo ≠ v := fun e => by rw [e, c0] at r2; cases r2
  have nv3 : qn ≠ v := fun e => by rw [e, c0] at r3; cases r3
  exact ⟨uph_eq, by rw [List.length_set]; exact c9, (get_set_ne (by decide)).trans c1, (get_set_ne (by decide)).trans c2, (get_set_ne (by decide)).trans c3, (get_set_ne (by decide)).trans c4, (get_set_ne (by decide)).trans c5, (get_set_ne (by decide)).trans c6, get_set (by omega), (get_set_ne (by decide)).trans c8, (get_set_ne (by decide)).trans c10, (uph_ne nv1).trans r1, (uph_ne nv2).trans r2, (uph_ne nv3).trans r3⟩
theorem CX.cm {h1 : AH} {v u qq qo qn : Nat} {fs : List Value} {S : BS} {wa ver cm cn : Int32} {gq go : Nat → Int32} {gs : Nat → Int64} (hC : CX h1 v u fs qq qo qn S wa ver cm gq go gs) : CX (uph h1 v (.inr (7, fs.set 7 (.int cn)))) v u (fs.set 7 (.int cn)) qq qo qn S wa ver cn gq go gs := by
  obtain ⟨c0, c9, c1, c2, c3, c4, c5, c6, c7, c8, c10, r1, r2, r3⟩ := hC
  have nv1 : qq ≠ v := fun e => by rw [e, c0] at r1; cases r1
  have nv2 : qo ≠ v := fun e => by rw [e, c0] at r2; cases r2
  have nv3 : qn ≠ v := fun e => by rw [e, c0] at r3; cases r3
  exact ⟨uph_eq, by rw [List.length_set]; exact c9, (get_set_ne (by decide)).trans c1, (get_set_ne (by decide)).trans c2, (get_set_ne (by decide)).trans c3, (get_set_ne (by decide)).trans c4, (get_set_ne (by decide)).trans c5, (get_set_ne (by decide)).trans c6, (get_set_ne (by decide)).trans c7, get_set (by omega), (get_set_ne (by decide)).trans c10, (uph_ne nv1).trans r1, (uph_ne nv2).trans r2, (uph_ne nv3).trans r3⟩
set_option maxHeartbeats 8000000 in
theorem exploreK {l : Launch} {G : GG} {nx : Nat} {Post : Option Value → AH → Nat → Prop} {II : AH → Prop} {val : Nat → Prop} {W : Nat → Bool} {v u qq qo qn nIn nR : Nat} {nxs : Nat → Nat → Nat} {S0 : BS} {a b ver : Int32} (hX : XC G ∧ TX l G) (hIu : ∀ h1, II h1 → ∃ fu, h1 u = some (.inr (3, fu))) (hIk : ∀ (h1 : AH) (a : Nat) (e : AE), a = v ∨ a = qq ∨ a = qo ∨ a = qn → II h1 → II (uph h1 a e)) (hic : ∀ (h1 : AH) {Q : Option Value → AH → Nat → Prop}, II h1 → Q (some (.int (nI nIn))) h1 nx → Runs l G i_X3_inputCount 0 0 [.ref u] h1 nx Q) (hset : ∀ (h1 : AH) (on x : Nat) {Q : Option Value → AH → Nat → Prop}, II h1 → on < 2 ^ nIn → val x → (∀ h2, II h2 → (∀ a, a = v ∨ a = qq ∨ a = qo ∨ a = qn → h2 a = h1 a) → Q (some (.int (stF (nxs on) nR (x % 64)))) h2 nx) → Runs l G i_X3_settle 0 0 [.ref u, .int (nI on), .int (nI x)] h1 nx Q) (hval : ∀ x, val x → x < 2048 ∧ x / 64 < 2 ^ nIn ∧ x % 64 < 2 ^ nR) (hvn : ∀ x i y, val x → i < nIn → nbF nR nxs x i = some y → val y) (hIn : nIn ≤ 5) (hR6 : nR ≤ 6) (hnx : ∀ on u, nxs on u < 2 ^ nR) (hqo : qo ≠ qq) (hwr : ∀ (h1 : AH) (x : Nat) {Q : Option Value → AH → Nat → Prop}, II h1 → val x → Q (some (.int (nI (W x).toNat))) h1 nx → Runs l G i_X3_isWrong 0 0 [.ref u, .int (nI x)] h1 nx Q) (hPs : (∀ (h1 : AH) (fs : List Value) (gq go : Nat → Int32) (gs : Nat → Int64) (k : Nat), II h1 → k < (bK (nbF nR nxs) nIn k S0).1 → CX h1 v u fs qq qo qn (bK (nbF nR nxs) nIn k S0) (wA W (bK (nbF nR nxs) nIn k S0).2.1 (k + 1)) ver 0 gq go gs → CR val (bK (nbF nR nxs) nIn k S0) gq go gs → ((a ≠ 0 ∧ 0 ≤ wA W (bK (nbF nR nxs) nIn k S0).2.1 (k + 1)) ∨ (b ≠ 0 ∧ 0 < nI (bK (nbF nR nxs) nIn k S0).2.2.2)) → Post none h1 nx)) (hPe : (∀ (h1 : AH) (fs : List Value) (gq go : Nat → Int32) (gs : Nat → Int64) (k : Nat), II h1 → (bK (nbF nR nxs) nIn k S0).1 = k → CX h1 v u fs qq qo qn (bK (nbF nR nxs) nIn k S0) (wA W (bK (nbF nR nxs) nIn k S0).2.1 k) ver 1 gq go gs → CR val (bK (nbF nR nxs) nIn k S0) gq go gs → Post none h1 nx)) : ∀ (n k : Nat) (h1 : AH) (fs : List Value) (gq go : Nat → Int32) (gs : Nat → Int64), k + n = 2048 → k ≤ (bK (nbF nR nxs) nIn k S0).1 → II h1 → CX h1 v u fs qq qo qn (bK (nbF nR nxs) nIn k S0) (wA W (bK (nbF nR nxs) nIn k S0).2.1 k) ver 0 gq go gs → CR val (bK (nbF nR nxs) nIn k S0) gq go gs → Go l G 7 s_X7_explore 0 0 Post 46 [(3, .int (nI k)), (0, .ref v), (1, .int a), (2, .int b)] [] h1 nx 0 0 := by
  intro n
  induction n with
  | zero =>
    intro k h1 fs gq go gs hk hkF hI hC hR
    have e1 : (bK (nbF nR nxs) nIn k S0).1 = k := by obtain ⟨_, _, _, _, _, _, hA⟩ := hR; have := hA.2.2.2; omega
    obtain ⟨c0, c9, c1, c2, c3, c4, c5, c6, c7, c8, c10, r1, r2, r3⟩ := id hC
    have s188 : Go l G 7 s_X7_explore 0 0 Post 188 [(3, .int (nI k)), (0, .ref v), (1, .int a), (2, .int b)] [] h1 nx 0 0 := by
      refine Go.of hX.2 ck_X7_explore [] 30 ?_
      refine Exists.intro _ (And.intro c0 (And.intro (by omega) (And.intro rfl (And.intro rfl ?_))))
      exact hPe _ _ gq go gs k (hIk _ v _ (Or.inl rfl) hI) e1 hC.cm hR
    refine Go.of hX.2 ck_X7_explore [188] 30 ?_
    refine Exists.intro _ (And.intro c0 (Exists.intro _ (And.intro c5 ?_)))
    refine And.intro (fun _ => ?_) (fun cz => absurd (nI_le (by omega) (by omega)) cz)
    exact go_loc (lv' := [(3, .int (nI k)), (0, .ref v), (1, .int a), (2, .int b)]) ⟨rfl, rfl, rfl, rfl, trivial⟩ s188
  | succ n ih =>
    intro k h1 fs gq go gs hk hkF hI hC hR
    have hF2 : (bK (nbF nR nxs) nIn k S0).1 ≤ 2048 := by obtain ⟨_, _, _, _, _, _, hA⟩ := hR; have := hA.2.2.2; omega
    obtain ⟨c0, c9, c1, c2, c3, c4, c5, c6, c7, c8, c10, r1, r2, r3⟩ := id hC
    by_cases e1 : (bK (nbF nR nxs) nIn k S0).1 = k
    · have s188 : Go l G 7 s_X7_explore 0 0 Post 188 [(3, .int (nI k)), (0, .ref v), (1, .int a), (2, .int b)] [] h1 nx 0 0 := by
        refine Go.of hX.2 ck_X7_explore [] 30 ?_
        refine Exists.intro _ (And.intro c0 (And.intro (by omega) (And.intro rfl (And.intro rfl ?_))))
        exact hPe _ _ gq go gs k (hIk _ v _ (Or.inl rfl) hI) e1 hC.cm hR
      refine Go.of hX.2 ck_X7_explore [188] 30 ?_
      refine Exists.intro _ (And.intro c0 (Exists.intro _ (And.intro c5 ?_)))
      refine And.intro (fun _ => ?_) (fun cz => absurd (nI_le (by omega) (by omega)) cz)
      exact go_loc (lv' := [(3, .int (nI k)), (0, .ref v), (1, .int a), (2, .int b)]) ⟨rfl, rfl, rfl, rfl, trivial⟩ s188
    · have hkl : k < (bK (nbF nR nxs) nIn k S0).1 := by omega
      obtain ⟨b1, _⟩ := hR.1 k hkl
      have b3 : val ((bK (nbF nR nxs) nIn k S0).2.1 k) := by obtain ⟨_, _, _, _, _, _, hA⟩ := hR; exact (hA.1 k hkl).2.2.1
      obtain ⟨fu, hu⟩ := hIu h1 hI
      have hstep : bK (nbF nR nxs) nIn (k + 1) S0 = bI (nbF nR nxs) k ((bK (nbF nR nxs) nIn k S0).2.1 k) nIn (bK (nbF nR nxs) nIn k S0) := if_pos hkl
      have hmono := bI_mono (nbF nR nxs) k ((bK (nbF nR nxs) nIn k S0).2.1 k) (bK (nbF nR nxs) nIn k S0) nIn
      have ewA : wA W (bK (nbF nR nxs) nIn (k + 1) S0).2.1 (k + 1) = wA W (bK (nbF nR nxs) nIn k S0).2.1 (k + 1) := by
        rw [hstep, wA_cg (fun j hj => (hmono.2 j (by omega)).1)]
      have s93 : ∀ (h2 : AH) (fs2 : List Value), II h2 → CX h2 v u fs2 qq qo qn (bK (nbF nR nxs) nIn k S0) (wA W (bK (nbF nR nxs) nIn k S0).2.1 (k + 1)) ver 0 gq go gs → Go l G 7 s_X7_explore 0 0 Post 93 [(4, .int (nI ((bK (nbF nR nxs) nIn k S0).2.1 k))), (3, .int (nI k)), (0, .ref v), (1, .int a), (2, .int b)] [] h2 nx 0 0 := by
        intro h2 fs2 hI2 hC2
        refine Go.of hX.2 ck_X7_explore [106] 30 ?_
        refine Exists.intro _ (And.intro hC2.1 (Exists.intro 0 (Exists.intro 0 (And.intro (Nat.le_refl _) (And.intro (Nat.le_refl _) (c_isAtStop hX hC2.1 hC2.2.2.2.2.2.2.2.1 hC2.2.2.2.2.2.2.2.2.1 ?_))))))
        by_cases hs : ((a ≠ 0 ∧ 0 ≤ wA W (bK (nbF nR nxs) nIn k S0).2.1 (k + 1)) ∨ (b ≠ 0 ∧ 0 < nI (bK (nbF nR nxs) nIn k S0).2.2.2))
        · rw [if_pos hs]
          refine And.intro (fun cz => by first | exact absurd cz (by decide) | exact absurd (by decide) cz) (fun _ => ?_)
          exact hPs h2 fs2 gq go gs k hI2 hkl hC2 hR hs
        · rw [if_neg hs]
          refine And.intro (fun _ => ?_) (fun cz => by first | exact absurd cz (by decide) | exact absurd (by decide) cz)
          refine go_loc (lv' := [(5, .int (nI 0)), (4, .int (nI ((bK (nbF nR nxs) nIn k S0).2.1 k))), (3, .int (nI k)), (0, .ref v), (1, .int a), (2, .int b)]) ⟨rfl, rfl, rfl, rfl, rfl, rfl, trivial⟩ (exploreI hX hIu hIk hic hset hval hvn hIn hR6 hnx hqo b3 (by omega) nIn 0 h2 fs2 gq go gs (Nat.zero_add _) hI2 hC2 hR (fun h3 fs3 g1 g2 g3 q0 q1 q2 => ?_))
          refine Go.of hX.2 ck_X7_explore [46] 20 ?_
          refine go_loc (lv' := [(3, .int (nI k + 1)), (0, .ref v), (1, .int a), (2, .int b)]) ⟨rfl, rfl, rfl, rfl, trivial⟩ ?_
          rw [← nI_succ]
          rw [← hstep] at q1 q2
          rw [← ewA] at q1
          exact ih (k + 1) h3 fs3 g1 g2 g3 (by omega) (by rw [hstep]; have := hmono.1; omega) q0 q1 q2
      have hwA : wA W (bK (nbF nR nxs) nIn k S0).2.1 (k + 1) = (if wA W (bK (nbF nR nxs) nIn k S0).2.1 k = -1 ∧ W ((bK (nbF nR nxs) nIn k S0).2.1 k) = true then nI k else wA W (bK (nbF nR nxs) nIn k S0).2.1 k) := rfl
      refine Go.of hX.2 ck_X7_explore [93] 60 ?_
      refine Exists.intro _ (And.intro c0 (Exists.intro _ (And.intro c5 ?_)))
      refine And.intro (fun cz => absurd cz (nI_ge hkl (by omega))) (fun _ => ?_)
      refine And.intro (fun cz => absurd cz (nI_ge (b := 2048) (by omega) (by decide))) (fun _ => ?_)
      refine Exists.intro _ (And.intro c0 (Exists.intro _ (And.intro c2 ?_)))
      refine Exists.intro _ (Exists.intro _ (And.intro r1 (And.intro (vp_in_nI (by omega) (by decide)) ?_)))
      rw [nI_clamp (by omega), b1]
      refine Exists.intro _ (And.intro c0 (Exists.intro _ (And.intro c7 ?_)))
      rcases wA_val W (bK (nbF nR nxs) nIn k S0).2.1 k with hw | ⟨j, hj, hw⟩
      · refine And.intro (fun cz => absurd (hw ▸ cz) (by decide)) (fun _ => ?_)
        refine Exists.intro _ (And.intro c0 (Exists.intro _ (And.intro c1 ?_)))
        refine Exists.intro _ (And.intro hu (Exists.intro 0 (Exists.intro 0 (And.intro (Nat.le_refl _) (And.intro (Nat.le_refl _) (hwr h1 _ hI b3 ?_))))))
        cases hwb : W ((bK (nbF nR nxs) nIn k S0).2.1 k)
        · rw [if_neg (fun z => by rw [hwb] at z; cases z.2)] at hwA
          refine And.intro (fun _ => ?_) (fun cz => absurd (tN0 rfl) cz)
          exact go_loc (lv' := [(4, .int (nI ((bK (nbF nR nxs) nIn k S0).2.1 k))), (3, .int (nI k)), (0, .ref v), (1, .int a), (2, .int b)]) ⟨rfl, rfl, rfl, rfl, rfl, trivial⟩ (s93 h1 fs hI (by rw [hwA]; exact hC))
        · rw [if_pos ⟨hw, hwb⟩] at hwA
          refine And.intro (fun cz => absurd cz (tN1 rfl)) (fun _ => ?_)
          refine Exists.intro _ (And.intro c0 (And.intro (by omega) (And.intro rfl (And.intro rfl ?_))))
          exact go_loc (lv' := [(4, .int (nI ((bK (nbF nR nxs) nIn k S0).2.1 k))), (3, .int (nI k)), (0, .ref v), (1, .int a), (2, .int b)]) ⟨rfl, rfl, rfl, rfl, rfl, trivial⟩ (s93 _ _ (hIk _ v _ (Or.inl rfl) hI) (by rw [hwA]; exact hC.wa))
      · have hne : ¬ wA W (bK (nbF nR nxs) nIn k S0).2.1 k = -1 := fun z => (nI_pos (n := j) (by omega)) (by rw [← hw, z]; decide)
        rw [if_neg (fun z => hne z.1)] at hwA
        refine And.intro (fun _ => ?_) (fun cz => absurd (by rw [hw]; exact nI_pos' (by omega)) cz)
        exact go_loc (lv' := [(4, .int (nI ((bK (nbF nR nxs) nIn k S0).2.1 k))), (3, .int (nI k)), (0, .ref v), (1, .int a), (2, .int b)]) ⟨rfl, rfl, rfl, rfl, rfl, trivial⟩ (s93 h1 fs hI (by rw [hwA]; exact hC))
