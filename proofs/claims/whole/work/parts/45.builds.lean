/-! the model builds a hut -/
set_option maxHeartbeats 8000000 in
theorem c_lays {l : Launch} {G : GG} {h : AH} {nx : Nat} {Post : Option Value → AH → Nat → Prop} {o hh nIn st su set : Nat} {wl br cr : Nat → Bool} {sl : Nat → Nat} {d K nR nL : Nat} {of : Nat → Nat} {nt tr : Nat → Bool} {CT : Nat → (Nat → Bool) → Bool} {e K2 nR2 nL2 : Nat} {of2 : Nat → Nat} {nt2 tr2 : Nat → Bool} {CT2 : Nat → (Nat → Bool) → Bool} {gsh0 gse0 gI gR gw gst gup : Nat → Int32} {fs : List Value} (hX : XC G ∧ TX l G) (hM : MA h o fs) (f61 : fs[61]? = some (.int (nI st))) (f62 : fs[62]? = some (.int (nI su))) (hS : SX h o) (hD : DG h o d K nR nL of nt tr CT) (hE : DG h o e K2 nR2 nL2 of2 nt2 tr2 CT2) (hW : WB h o wl br cr) (h41 : h (o + 1 + 41) = some (.inl (0, 4096, .inl gsh0))) (h42 : h (o + 1 + 42) = some (.inl (0, 4096, .inl gse0))) (h7 : h (o + 1 + 7) = some (.inl (0, 5, .inl gI))) (h10 : h (o + 1 + 10) = some (.inl (0, 5, .inl gR))) (h11 : h (o + 1 + 11) = some (.inl (0, 30, .inl gw))) (h43 : h (o + 1 + 43) = some (.inl (0, 2, .inl gst))) (h44 : h (o + 1 + 44) = some (.inl (0, 2, .inl gup))) (hd : d < 5) (hhh : hh < 2) (eI : gI d = nI nIn) (hIn : nIn ≤ 5) (eR : gR d = nI nR) (hR6 : nR ≤ 6) (ew : ∀ r, r < nR → gw (6 * d + r) = nI (sl r) ∧ sl r < 10) (hst : st < 2 ^ 31) (hset1 : set < 2048) (hset : ∀ k, k < 11 → set.testBit k = true → cirB nR2 nL2 k = true) (hcr : ∀ k, cr k = true → k + 1 < K ∧ k + 1 < K2) (hP : ∀ (h1 : AH) (gsh gse : Nat → Int32), (∀ a, a ≠ o + 1 + 35 → a ≠ o + 1 + 36 → a ≠ o + 1 + 40 → a ≠ o + 1 + 41 → a ≠ o + 1 + 42 → a ≠ o + 1 + 43 → a ≠ o + 1 + 44 → h1 a = h a) → SX h1 o → h1 (o + 1 + 41) = some (.inl (0, 4096, .inl gsh)) → h1 (o + 1 + 42) = some (.inl (0, 4096, .inl gse)) → h1 (o + 1 + 43) = some (.inl (0, 2, .inl (upd gst hh (nI st)))) → h1 (o + 1 + 44) = some (.inl (0, 2, .inl (upd gup hh (nI su)))) → (∀ a, a < 2048 * hh ∨ 2048 * hh + 2048 ≤ a → gsh a = gsh0 a) → (∀ a, a < 2048 * hh ∨ 2048 * hh + 2048 ≤ a → gse a = gse0 a) → (∀ on2, on2 < 2 ^ nIn → ∀ v, v < 2 ^ nR → gsh (2048 * hh + 64 * on2 + v) = nI (shM nR nL set of of2 nt tr nt2 tr2 wl br cr CT CT2 on2 v)) → (∀ on2, on2 < 2 ^ nIn → ∀ v, v < 2 ^ nR → gse (2048 * hh + 64 * on2 + v) = stF (fun v => mvF nR sl (shM nR nL set of of2 nt tr nt2 tr2 wl br cr CT CT2 on2 v) st v) nR v) → Post none h1 nx) : Runs l G i_X12_lays 0 0 [.ref o, .int (nI hh), .int (nI d), .int (nI e), .int (nI set)] h nx Post := by
  refine en_X12_lays hX [23] 60 rfl ?_
  refine Exists.intro _ (And.intro hM.1 (Exists.intro _ (And.intro (hM.2.2 43 (by decide)) ?_)))
  refine Exists.intro _ (And.intro hM.1 (Exists.intro _ (And.intro f61 ?_)))
  refine Exists.intro _ (Exists.intro _ (And.intro h43 (And.intro (vp_in_nI hhh (by decide)) ?_)))
  rw [nI_clamp (by omega)]
  refine Exists.intro _ (And.intro (by rw [uph_ne (by omega)]; exact hM.1) (Exists.intro _ (And.intro (hM.2.2 44 (by decide)) ?_)))
  refine Exists.intro _ (And.intro (by rw [uph_ne (by omega)]; exact hM.1) (Exists.intro _ (And.intro f62 ?_)))
  refine Exists.intro _ (Exists.intro _ (And.intro (by rw [uph_ne (by omega)]; exact h44) (And.intro (vp_in_nI hhh (by decide)) ?_)))
  rw [nI_clamp (by omega)]
  have ag : ∀ a, a ≠ o + 1 + 43 → a ≠ o + 1 + 44 → (uph (uph h (o + 1 + 43) (.inl (0, 2, .inl (upd gst hh (nI st))))) (o + 1 + 44) (.inl (0, 2, .inl (upd gup hh (nI su))))) a = h a := fun a x1 x2 => by rw [uph_ne x2, uph_ne x1]
  refine go_loc (lv' := [(5, .int (nI 0)), (0, .ref o), (1, .int (nI hh)), (2, .int (nI d)), (3, .int (nI e)), (4, .int (nI set))]) ⟨rfl, rfl, rfl, rfl, rfl, rfl, trivial⟩ ?_
  refine laysL (st := st) (sl := sl) (gst := upd gst hh (nI st)) hX (hM.keep (ag _ (by omega) (by omega))) ?_ (hD.ag (fun j hj => ag _ (by omega) (by omega))) (hE.ag (fun j hj => ag _ (by omega) (by omega))) (hW.ag (fun j hj => ag _ (by omega) (by omega))) ((ag _ (by omega) (by omega)).trans h41) ((ag _ (by omega) (by omega)).trans h42) ((ag _ (by omega) (by omega)).trans h7) ((ag _ (by omega) (by omega)).trans h10) ((ag _ (by omega) (by omega)).trans h11) (by rw [uph_ne (by omega)]; exact uph_eq) hd hhh hst eI hIn eR hR6 ew pk_us hset1 hset hcr (fun h1 gsh gse q1 q2 q3 q4 q5 q6 q7 q8 => ?_)
  · obtain ⟨⟨ga, ha⟩, ⟨gb, hb⟩, ⟨gc, hc⟩⟩ := hS
    exact ⟨⟨ga, (ag _ (by omega) (by omega)).trans ha⟩, ⟨gb, (ag _ (by omega) (by omega)).trans hb⟩, ⟨gc, (ag _ (by omega) (by omega)).trans hc⟩⟩
  · exact hP h1 gsh gse (fun a x1 x2 x3 x4 x5 x6 x7 => (q1 a x1 x2 x3 x4 x5).trans (ag a x6 x7)) q2 q3 q4 ((q1 _ (by omega) (by omega) (by omega) (by omega) (by omega)).trans (by rw [uph_ne (by omega)]; exact uph_eq)) ((q1 _ (by omega) (by omega) (by omega) (by omega) (by omega)).trans uph_eq) q5 q6 q7 q8
theorem sk_lt {nR K : Nat} {f : Option Nat} (hR6 : nR ≤ 6) (h : okF K nR f) : skF f < 2 ^ 6 ∧ suF f < 2 ^ 6 := by
  cases f with
  | none => exact ⟨by decide, by decide⟩
  | some n =>
    unfold skF suF
    by_cases h2 : n < 200
    · simp [h2]
    · have := h.2 (by omega)
      have hp : 2 ^ ((n - 200) / 2) < 2 ^ 6 := Nat.pow_lt_pow_right (by decide) (by omega)
      by_cases h3 : n % 2 = 0
      · simp only [h2, h3, if_true, if_false]
        exact ⟨hp, hp⟩
      · simp only [h2, h3, if_false]
        exact ⟨hp, by decide⟩
theorem cr_ok {K nR : Nat} {f g : Option Nat} (hf : okF K nR f) (hg : okF K nR g) {k : Nat} (h : cr2 f g k = true) : k + 1 < K := by
  have one : ∀ {q : Option Nat}, okF K nR q → crF q k = true → k + 1 < K := fun {q} hq hc => by
    cases q with
    | none => cases hc
    | some n =>
      have := of_decide_eq_true hc
      have h2 := (hq.1 this.1).2.2 this.2.1
      omega
  unfold cr2 at h
  rw [Bool.or_eq_true] at h
  exact h.elim (one hf) (one hg)
set_option maxHeartbeats 8000000 in
theorem c_builds {l : Launch} {G : GG} {h : AH} {nx : Nat} {Post : Option Value → AH → Nat → Prop} {o hh nIn : Nat} {f g : Option Nat} {sl : Nat → Nat} {d K nR nL : Nat} {of : Nat → Nat} {nt tr : Nat → Bool} {CT : Nat → (Nat → Bool) → Bool} {gsh0 gse0 gI gR gw gst gup : Nat → Int32} {fs : List Value} (hX : XC G ∧ TX l G) (hM : MA h o fs) (f19 : fs[19]? = some (.int (nI d))) (hS : SX h o) (hD : DG h o d K nR nL of nt tr CT) (hWE : ∃ gw gb gc : Nat → Int32, h (o + 1 + 37) = some (.inl (3, 40, .inl gw)) ∧ h (o + 1 + 38) = some (.inl (3, 40, .inl gb)) ∧ h (o + 1 + 39) = some (.inl (3, 40, .inl gc))) (h41 : h (o + 1 + 41) = some (.inl (0, 4096, .inl gsh0))) (h42 : h (o + 1 + 42) = some (.inl (0, 4096, .inl gse0))) (h7 : h (o + 1 + 7) = some (.inl (0, 5, .inl gI))) (h10 : h (o + 1 + 10) = some (.inl (0, 5, .inl gR))) (h11 : h (o + 1 + 11) = some (.inl (0, 30, .inl gw))) (h43 : h (o + 1 + 43) = some (.inl (0, 2, .inl gst))) (h44 : h (o + 1 + 44) = some (.inl (0, 2, .inl gup))) (hd : d < 5) (hhh : hh < 2) (eI : gI d = nI nIn) (hIn : nIn ≤ 5) (eR : gR d = nI nR) (hR6 : nR ≤ 6) (ew : ∀ r, r < nR → gw (6 * d + r) = nI (sl r) ∧ sl r < 10) (hK : K ≤ 40) (hf : okF K nR f) (hg : okF K nR g) (hP : ∀ (h1 : AH) (fs1 : List Value) (gsh gse : Nat → Int32), MA h1 o fs1 → (∀ k, k ≠ 61 → k ≠ 62 → fs1[k]? = fs[k]?) → (∀ a, a ≠ o → a ≠ o + 1 + 35 → a ≠ o + 1 + 36 → a ≠ o + 1 + 37 → a ≠ o + 1 + 38 → a ≠ o + 1 + 39 → a ≠ o + 1 + 40 → a ≠ o + 1 + 41 → a ≠ o + 1 + 42 → a ≠ o + 1 + 43 → a ≠ o + 1 + 44 → h1 a = h a) → SX h1 o → (∃ gw gb gc : Nat → Int32, h1 (o + 1 + 37) = some (.inl (3, 40, .inl gw)) ∧ h1 (o + 1 + 38) = some (.inl (3, 40, .inl gb)) ∧ h1 (o + 1 + 39) = some (.inl (3, 40, .inl gc))) → h1 (o + 1 + 41) = some (.inl (0, 4096, .inl gsh)) → h1 (o + 1 + 42) = some (.inl (0, 4096, .inl gse)) → h1 (o + 1 + 43) = some (.inl (0, 2, .inl (upd gst hh (nI (skF f ||| skF g))))) → h1 (o + 1 + 44) = some (.inl (0, 2, .inl (upd gup hh (nI (suF f ||| suF g))))) → (∀ a, a < 2048 * hh ∨ 2048 * hh + 2048 ≤ a → gsh a = gsh0 a) → (∀ a, a < 2048 * hh ∨ 2048 * hh + 2048 ≤ a → gse a = gse0 a) → (∀ on2, on2 < 2 ^ nIn → ∀ v, v < 2 ^ nR → gsh (2048 * hh + 64 * on2 + v) = nI (shM nR nL 0 of of nt tr nt tr (wl2 f g) (br2 f g) (cr2 f g) CT CT on2 v)) → (∀ on2, on2 < 2 ^ nIn → ∀ v, v < 2 ^ nR → gse (2048 * hh + 64 * on2 + v) = stF (fun v => mvF nR sl (shM nR nL 0 of of nt tr nt tr (wl2 f g) (br2 f g) (cr2 f g) CT CT on2 v) (skF f ||| skF g) v) nR v) → Post none h1 nx) : Runs l G i_X12_builds 0 0 [.ref o, .int (nI hh), .int (flI f), .int (flI g)] h nx Post := by
  obtain ⟨g37, g38, g39, h37, h38, h39⟩ := hWE
  refine en_X12_builds hX [] 60 rfl ?_
  refine Exists.intro _ (And.intro hM.1 (Exists.intro 0 (Exists.intro 0 (And.intro (Nat.le_refl _) (And.intro (Nat.le_refl _) (c_sound hX hM h37 h38 h39 (fun s1 s2 s3 hz => ?_)))))))
  have hM1 : MA (uph (uph (uph (uph h (o + 1 + 37) (.inl (3, 40, .inl s1))) (o + 1 + 38) (.inl (3, 40, .inl s2))) (o + 1 + 39) (.inl (3, 40, .inl s3))) o (.inr (12, soF fs))) o (soF fs) := ⟨uph_eq, by unfold soF; simp only [List.length_set]; exact hM.2.1, fun j hj => by unfold soF; rw [get_set_ne (Ne.symm (rfM_no j hj).2), get_set_ne (Ne.symm (rfM_no j hj).1)]; exact hM.2.2 j hj⟩
  have hW1 : WB (uph (uph (uph (uph h (o + 1 + 37) (.inl (3, 40, .inl s1))) (o + 1 + 38) (.inl (3, 40, .inl s2))) (o + 1 + 39) (.inl (3, 40, .inl s3))) o (.inr (12, soF fs))) o (fun _ => false) (fun _ => false) (fun _ => false) := ⟨s1, s2, s3, by rw [uph_ne (by omega), uph_ne (by omega), uph_ne (by omega)]; exact uph_eq, by rw [uph_ne (by omega), uph_ne (by omega)]; exact uph_eq, by rw [uph_ne (by omega)]; exact uph_eq, fun k hk => (hz k hk).1, fun k hk => (hz k hk).2.1, fun k hk => (hz k hk).2.2⟩
  have e99 := hM.2.1
  refine Exists.intro _ (And.intro hM1.1 (Exists.intro 0 (Exists.intro 0 (And.intro (Nat.le_refl _) (And.intro (Nat.le_refl _) (c_spoils (st := 0) (su := 0) hX hM1 hW1 ((get_set_ne (by decide)).trans (get_set (by omega))) (get_set (by simp only [List.length_set]; omega)) hK hR6 hf (fun h2 fs2 hM2 hW2 a61 a62 afs aag => ?_)))))))
  refine Exists.intro _ (And.intro hM2.1 (Exists.intro 0 (Exists.intro 0 (And.intro (Nat.le_refl _) (And.intro (Nat.le_refl _) (c_spoils hX hM2 hW2 a61 a62 hK hR6 hg (fun h3 fs3 hM3 hW3 b61 b62 bfs bag => ?_)))))))
  have ag : ∀ a, a ≠ o → a ≠ o + 1 + 37 → a ≠ o + 1 + 38 → a ≠ o + 1 + 39 → h3 a = h a := fun a x1 x2 x3 x4 => (bag a x1 x2 x3 x4).trans ((aag a x1 x2 x3 x4).trans (by rw [uph_ne x1, uph_ne x4, uph_ne x3, uph_ne x2]))
  have fse : ∀ k, k ≠ 61 → k ≠ 62 → fs3[k]? = fs[k]? := fun k x1 x2 => (bfs k x1 x2).trans ((afs k x1 x2).trans (by unfold soF; rw [get_set_ne (Ne.symm x2), get_set_ne (Ne.symm x1)]))
  have hW4 : WB h3 o (wl2 f g) (br2 f g) (cr2 f g) := by
    have := hW3
    simp only [Bool.false_or] at this
    exact this
  have c19 : fs3[19]? = some (.int (nI d)) := (fse 19 (by decide) (by decide)).trans f19
  refine Exists.intro _ (And.intro hM3.1 (Exists.intro _ (And.intro c19 ?_)))
  refine Exists.intro _ (And.intro hM3.1 (Exists.intro _ (And.intro c19 ?_)))
  have l1 := sk_lt hR6 hf
  have l2 := sk_lt hR6 hg
  have hsk : skF f ||| skF g < 2 ^ 6 := Nat.or_lt_two_pow l1.1 l2.1
  rw [Nat.zero_or] at b61 b62
  refine Exists.intro _ (And.intro hM3.1 (Exists.intro 0 (Exists.intro 0 (And.intro (Nat.le_refl _) (And.intro (Nat.le_refl _) (c_lays (st := skF f ||| skF g) (su := suF f ||| suF g) (set := 0) (sl := sl) hX hM3 b61 b62 ?_ (hD.ag (fun j hj => ag _ (by omega) (by omega) (by omega) (by omega))) (hD.ag (fun j hj => ag _ (by omega) (by omega) (by omega) (by omega))) hW4 ((ag _ (by omega) (by omega) (by omega) (by omega)).trans h41) ((ag _ (by omega) (by omega) (by omega) (by omega)).trans h42) ((ag _ (by omega) (by omega) (by omega) (by omega)).trans h7) ((ag _ (by omega) (by omega) (by omega) (by omega)).trans h10) ((ag _ (by omega) (by omega) (by omega) (by omega)).trans h11) ((ag _ (by omega) (by omega) (by omega) (by omega)).trans h43) ((ag _ (by omega) (by omega) (by omega) (by omega)).trans h44) hd hhh eI hIn eR hR6 ew (by omega) (by decide) (fun k _ hk => by rw [Nat.zero_testBit] at hk; cases hk) (fun k hk => ⟨cr_ok hf hg hk, cr_ok hf hg hk⟩) (fun h4 gsh gse q1 q2 q3 q4 q5 q6 q7 q8 q9 q10 => ?_)))))))
  · obtain ⟨⟨ga, ha⟩, ⟨gb, hb⟩, ⟨gc, hc⟩⟩ := hS
    exact ⟨⟨ga, (ag _ (by omega) (by omega) (by omega) (by omega)).trans ha⟩, ⟨gb, (ag _ (by omega) (by omega) (by omega) (by omega)).trans hb⟩, ⟨gc, (ag _ (by omega) (by omega) (by omega) (by omega)).trans hc⟩⟩
  · obtain ⟨w1, w2, w3, z1, z2, z3, _⟩ := hW4
    exact hP h4 fs3 gsh gse (hM3.keep (q1 _ (by omega) (by omega) (by omega) (by omega) (by omega) (by omega) (by omega))) fse (fun a x0 x1 x2 x3 x4 x5 x6 x7 x8 x9 x10 => (q1 a x1 x2 x6 x7 x8 x9 x10).trans (ag a x0 x3 x4 x5)) q2 ⟨w1, w2, w3, (q1 _ (by omega) (by omega) (by omega) (by omega) (by omega) (by omega) (by omega)).trans z1, (q1 _ (by omega) (by omega) (by omega) (by omega) (by omega) (by omega) (by omega)).trans z2, (q1 _ (by omega) (by omega) (by omega) (by omega) (by omega) (by omega) (by omega)).trans z3⟩ q3 q4 q5 q6 q7 q8 q9 q10
