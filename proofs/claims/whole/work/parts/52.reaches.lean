/-! the model's startOf; its reaches as a call -/
set_option maxHeartbeats 8000000 in
theorem c_startOf {l : Launch} {G : GG} {h : AH} {nx : Nat} {Post : Option Value → AH → Nat → Prop} {o hh nR stv suv : Nat} {nxs : Nat → Nat → Nat} {gse gst gup : Nat → Int32} {fs : List Value} (hX : XC G ∧ TX l G) (hM : MA h o fs) (hhh : hh < 2) (hR6 : nR ≤ 6) (h42 : h (o + 1 + 42) = some (.inl (0, 4096, .inl gse))) (h43 : h (o + 1 + 43) = some (.inl (0, 2, .inl gst))) (h44 : h (o + 1 + 44) = some (.inl (0, 2, .inl gup))) (est : gst hh = nI stv) (esu : gup hh = nI suv) (hsu : suv < 2 ^ nR) (ese : ∀ v, v < 2 ^ nR → gse (2048 * hh + 64 * 0 + v) = stF (nxs 0) nR v) (hP : Post (some (.int (stF (nxs 0) nR suv))) h nx) : Runs l G i_X12_startOf 0 0 [.ref o, .int (nI hh)] h nx Post := by
  have hp : 2 ^ nR ≤ 64 := Nat.pow_le_pow_right (n := 2) (by decide) hR6
  have ep : plc stv suv 0 = suv := by unfold plc; rw [Nat.zero_and, Nat.xor_self, Nat.zero_or]
  have ei : (2048 : Int32) * nI hh + nI suv = nI (2048 * hh + 64 * 0 + suv) := by rw [show (2048 : Int32) = nI 2048 from rfl, nI_mul, nI_add]; congr 1
  refine en_X12_startOf hX [] 40 rfl ?_
  refine Exists.intro _ (And.intro hM.1 (Exists.intro _ (And.intro (hM.2.2 42 (by decide)) ?_)))
  refine Exists.intro _ (And.intro hM.1 (Exists.intro 0 (Exists.intro 0 (And.intro (Nat.le_refl _) (And.intro (Nat.le_refl _) (c_placed (up := 0) hX hM.1 (hM.2.2 43 (by decide)) (hM.2.2 44 (by decide)) h43 h44 hhh est esu ?_))))))
  rw [ep]
  refine Exists.intro _ (Exists.intro _ (And.intro h42 (And.intro (by rw [ei]; exact vp_in_nI (by omega) (by decide)) ?_)))
  rw [ei, nI_clamp (by omega), ese suv hsu]
  exact And.intro rfl hP
set_option maxHeartbeats 8000000 in
theorem c_reaches {l : Launch} {G : GG} {h : AH} {nx : Nat} {Post : Option Value → AH → Nat → Prop} {o hh d e nIn nR : Nat} {nxs : Nat → Nat → Nat} {gI gse : Nat → Int32} {fs : List Value} {nL nV : Nat} {shv : Nat → Nat → Nat} {lp : Nat → Nat} {grn tr : Nat → Bool} {NV : Nat → Nat → Nat → Bool} {gL gg gsh : Nat → Int32} {stv suv : Nat} {gst gup : Nat → Int32} {gF0 gr0 gf0 gb0 g36 : Nat → Int32} (hX : XC G ∧ TX l G) (hM : MA h o fs) (hd : d < 5) (hhh : hh < 2) (h7 : h (o + 1 + 7) = some (.inl (0, 5, .inl gI))) (eI : gI d = nI nIn) (hIn : nIn ≤ 5) (hR6 : nR ≤ 6) (h42 : h (o + 1 + 42) = some (.inl (0, 4096, .inl gse))) (hnx : ∀ on u, nxs on u < 2 ^ nR) (ese : ∀ on, on < 2 ^ nIn → ∀ v, v < 2 ^ nR → gse (2048 * hh + 64 * on + v) = stF (nxs on) nR v) (hN : DN h o e nV lp tr NV) (h41 : h (o + 1 + 41) = some (.inl (0, 4096, .inl gsh))) (h13 : h (o + 1 + 13) = some (.inl (0, 5, .inl gL))) (h14 : h (o + 1 + 14) = some (.inl (3, 25, .inl gg))) (eL : gL d = nI nL) (hL5 : nL ≤ 5) (eg : ∀ k, k < nL → gg (5 * d + k) = nI (grn k).toNat) (esh : ∀ on, on < 2 ^ nIn → ∀ v, v < 2 ^ nR → gsh (2048 * hh + 64 * on + v) = nI (shv on v) ∧ shv on v < 2048) (h43 : h (o + 1 + 43) = some (.inl (0, 2, .inl gst))) (h44 : h (o + 1 + 44) = some (.inl (0, 2, .inl gup))) (est : gst hh = nI stv) (esu : gup hh = nI suv) (hsu : suv < 2 ^ nR) (h36 : h (o + 1 + 36) = some (.inl (3, 420, .inl g36))) (h45 : h (o + 1 + 45) = some (.inl (0, 2048, .inl gr0))) (h46 : h (o + 1 + 46) = some (.inl (0, 2048, .inl gf0))) (h47 : h (o + 1 + 47) = some (.inl (0, 2048, .inl gb0))) (h48 : h (o + 1 + 48) = some (.inl (3, 2048, .inl gF0))) (hPr : stF (nxs 0) nR suv = -2 → ∀ (h1 : AH) (fs1 : List Value) (gF : Nat → Int32), RB o h fs h1 fs1 gF gr0 gf0 gb0 0 1 (-1) → Post none h1 nx) (hPs : ∀ s0, s0 < 2 ^ nR → stF (nxs 0) nR suv = nI s0 → (∀ (h1 : AH) (fs1 : List Value) (gF gr gf gb : Nat → Int32) (k : Nat), (bK (nbF nR nxs) nIn k (S0F s0)).1 = k → RB o h fs h1 fs1 gF gr gf gb k (bK (nbF nR nxs) nIn k (S0F s0)).2.2.2 (wA (wrB shv grn nL nV lp NV) (bK (nbF nR nxs) nIn k (S0F s0)).2.1 k) → AR (fun x => x / 64 < 2 ^ nIn ∧ x % 64 < 2 ^ nR) (bK (nbF nR nxs) nIn k (S0F s0)) gF gr gf gb → Post none h1 nx)) : Runs l G i_X12_reaches 0 0 [.ref o, .int (nI hh), .int (nI d), .int (nI e)] h nx Post := by
  have e99 := hM.2.1
  have hp : 2 ^ nR ≤ 64 := Nat.pow_le_pow_right (n := 2) (by decide) hR6
  have hpi0 : 0 < 2 ^ nIn := Nat.two_pow_pos nIn
  have hMB : MA (uph h o (.inr (12, ((fs.set 68 (.int 0)).set 73 (.int 0)).set 74 (.int (-1))))) o (((fs.set 68 (.int 0)).set 73 (.int 0)).set 74 (.int (-1))) := ⟨uph_eq, by simp only [List.length_set]; exact e99, fun j hj => by rw [get_set_ne (Ne.symm (rfM_no3 j hj).2.2), get_set_ne (Ne.symm (rfM_no3 j hj).2.1), get_set_ne (Ne.symm (rfM_no3 j hj).1)]; exact hM.2.2 j hj⟩
  have mkR : ∀ g : Nat → Int32, RB o h fs (uph (uph h o (.inr (12, ((fs.set 68 (.int 0)).set 73 (.int 0)).set 74 (.int (-1))))) (o + 1 + 48) (.inl (3, 2048, .inl g))) (((fs.set 68 (.int 0)).set 73 (.int 0)).set 74 (.int (-1))) g gr0 gf0 gb0 0 0 (-1) := fun g => ⟨hMB.keep (uph_ne (by omega)), fun q q1 q2 q3 => by rw [get_set_ne (Ne.symm q3), get_set_ne (Ne.symm q2), get_set_ne (Ne.symm q1)], (get_set_ne (by decide)).trans ((get_set_ne (by decide)).trans (get_set (by omega))), (get_set_ne (by decide)).trans (get_set (by simp only [List.length_set]; omega)), get_set (by simp only [List.length_set]; omega), by rw [uph_ne (by omega), uph_ne (by omega)]; exact h45, by rw [uph_ne (by omega), uph_ne (by omega)]; exact h46, by rw [uph_ne (by omega), uph_ne (by omega)]; exact h47, uph_eq, ⟨g36, by rw [uph_ne (by omega), uph_ne (by omega)]; exact h36⟩, fun a x0 x1 x2 x3 x4 x5 => by rw [uph_ne x5, uph_ne x0]⟩
  have loop : ∀ (n k : Nat) (g : Nat → Int32), k + n = 2048 → (∀ j, j < k → g j = 0) → Go l G 12 s_X12_reaches 0 0 Post 18 [(4, .int (nI k)), (0, .ref o), (1, .int (nI hh)), (2, .int (nI d)), (3, .int (nI e))] [] (uph (uph h o (.inr (12, ((fs.set 68 (.int 0)).set 73 (.int 0)).set 74 (.int (-1))))) (o + 1 + 48) (.inl (3, 2048, .inl g))) nx 0 0 := by
    intro n
    induction n with
    | zero =>
      intro k g hk hg
      have ek : k = 2048 := by omega
      have hR := mkR g
      obtain ⟨hM1, a1, a2, a3, a4, a5, a6, a7, a8, a9, a10⟩ := id hR
      refine Go.of hX.2 ck_X12_reaches [71] 60 ?_
      refine And.intro (fun _ => ?_) (fun cz => absurd (nI_le (a := 2048) (by omega) (by omega)) cz)
      refine Exists.intro _ (And.intro hM1.1 (Exists.intro 0 (Exists.intro 0 (And.intro (Nat.le_refl _) (And.intro (Nat.le_refl _) (c_startOf (nxs := nxs) hX hM1 hhh hR6 ((a10 _ (by omega) (by omega) (by omega) (by omega) (by omega) (by omega)).trans h42) ((a10 _ (by omega) (by omega) (by omega) (by omega) (by omega) (by omega)).trans h43) ((a10 _ (by omega) (by omega) (by omega) (by omega) (by omega) (by omega)).trans h44) est esu hsu (fun v hv => ese 0 hpi0 v hv) ?_))))))
      by_cases hr : stF (nxs 0) nR suv = -2
      · refine And.intro (fun cz => absurd hr cz) (fun _ => ?_)
        refine Exists.intro _ (And.intro hM1.1 (And.intro (by have := hM1.2.1; omega) (And.intro rfl (And.intro rfl ?_))))
        exact hPr hr _ ((((fs.set 68 (.int 0)).set 73 (.int 0)).set 74 (.int (-1))).set 73 (.int 1)) g ⟨⟨uph_eq, by rw [List.length_set]; exact hM1.2.1, fun j hj => by rw [get_set_ne (Ne.symm (rfM_no3 j hj).2.1)]; exact hM1.2.2 j hj⟩, fun q q1 q2 q3 => by rw [get_set_ne (Ne.symm q2)]; exact a1 q q1 q2 q3, (get_set_ne (by decide)).trans a2, get_set (by have := hM1.2.1; omega), (get_set_ne (by decide)).trans a4, (uph_ne (by omega)).trans a5, (uph_ne (by omega)).trans a6, (uph_ne (by omega)).trans a7, (uph_ne (by omega)).trans a8, a9.imp (fun q hq => (uph_ne (by omega)).trans hq), fun a x0 x1 x2 x3 x4 x5 => (uph_ne x0).trans (a10 a x0 x1 x2 x3 x4 x5)⟩
      · obtain ⟨s, hs, hv⟩ : ∃ s, s < 2 ^ nR ∧ stF (nxs 0) nR suv = nI s := by
          by_cases hex : ∃ s, ST (nxs 0) nR suv s
          · obtain ⟨s, hst⟩ := hex
            obtain ⟨m, hm⟩ := id hst
            exact ⟨s, ST_lt (hnx _) hsu hm, stF_some (hnx _) hst⟩
          · exact absurd (stF_none (fun s hst => hex ⟨s, hst⟩)) hr
        refine And.intro (fun _ => ?_) (fun cz => absurd cz hr)
        rw [hv]
        refine Exists.intro _ (And.intro hM1.1 (Exists.intro 0 (Exists.intro 0 (And.intro (Nat.le_refl _) (And.intro (Nat.le_refl _) (c_arrives hX hR (show s < 2048 by omega) (by decide) (fun h2 fs2 hR2 => ?_)))))))
        refine go_loc (lv' := [(5, .int (nI 0)), (0, .ref o), (1, .int (nI hh)), (2, .int (nI d)), (3, .int (nI e))]) ⟨rfl, rfl, rfl, rfl, rfl, trivial⟩ ?_
        refine reachK (s0 := s) (nL := nL) (nV := nV) (shv := shv) (lp := lp) (grn := grn) (tr := tr) (NV := NV) hX hM hd hhh h7 eI hIn hR6 h42 hnx ese hN h41 h13 h14 eL hL5 eg esh (hPs s hs hv) 2048 0 h2 fs2 _ _ _ _ (by decide) (Nat.zero_le _) hR2 ⟨fun j hj => ?_, fun _ => ⟨pk_us, pk_us⟩, fun y hy => ?_, ?_⟩
        · have ej : j = 0 := by have hj2 : j < 1 := hj; omega
          subst ej
          refine ⟨?_, ?_, ⟨?_, ?_⟩, fun z => absurd z (Nat.lt_irrefl 0)⟩
          · show upd gr0 0 (nI s) 0 = nI (upN (fun _ => 0) 0 s 0)
            rw [upN_s]
            exact pk_us
          · show upN (fun _ => 0) 0 s 0 < 2048
            rw [upN_s]
            omega
          · show upN (fun _ => 0) 0 s 0 / 64 < 2 ^ nIn
            rw [upN_s, show s / 64 = 0 by omega]
            exact hpi0
          · show upN (fun _ => 0) 0 s 0 % 64 < 2 ^ nR
            rw [upN_s, show s % 64 = s by omega]
            exact hs
        · show upd g s 1 y = nI (memB (upN (fun _ => 0) 0 s) y (0 + 1)).toNat
          rw [memB_up]
          show upd g s 1 y = nI (decide (s = y) || false).toNat
          by_cases e : s = y
          · subst e; rw [decide_eq_true rfl]; exact pk_us
          · rw [decide_eq_false e]; exact (pk_un (Ne.symm e)).trans (hg y (by omega))
        · have h0 : g (0 + s) = 0 := by rw [Nat.zero_add]; exact hg s (by omega)
          have hc := (cntC_off (x := 1) (by decide) h0 2048).2 (by omega)
          have hc0 := cntC_all (c := 0) (B := 0) (g := g) (n := 2048) (fun j hj => by rw [Nat.zero_add]; exact hg j (by omega))
          rw [Nat.zero_add] at hc
          show cntC 0 0 (upd g s 1) 2048 + 1 = 2048
          omega
    | succ n ih =>
      intro k g hk hg
      refine Go.of hX.2 ck_X12_reaches [18] 40 ?_
      refine And.intro (fun cz => absurd cz (nI_ge (b := 2048) (by omega) (by decide))) (fun _ => ?_)
      refine Exists.intro _ (And.intro (by rw [uph_ne (by omega)]; exact hMB.1) (Exists.intro _ (And.intro (hMB.2.2 48 (by decide)) ?_)))
      refine Exists.intro 3 (Exists.intro _ (Exists.intro _ (And.intro uph_eq (And.intro (Or.inr rfl) (And.intro (vp_in_nI (by omega) (by decide)) ?_)))))
      rw [uph_uph, nI_clamp (by omega), show vp_nar (TY 3) 0 = 0 from by decide]
      refine go_loc (lv' := [(4, .int (nI k + 1)), (0, .ref o), (1, .int (nI hh)), (2, .int (nI d)), (3, .int (nI e))]) ⟨rfl, rfl, rfl, rfl, rfl, trivial⟩ ?_
      rw [← nI_succ]
      refine ih (k + 1) _ (by omega) (fun j hj => ?_)
      by_cases e : j = k
      · rw [e]; exact pk_us
      · exact (pk_un e).trans (hg j (by omega))
  refine en_X12_reaches hX [18] 40 rfl ?_
  refine Exists.intro _ (And.intro hM.1 (And.intro (by omega) (And.intro rfl (And.intro rfl ?_))))
  refine Exists.intro _ (And.intro uph_eq (And.intro (by simp only [List.length_set]; omega) (And.intro rfl (And.intro rfl ?_))))
  refine Exists.intro _ (And.intro uph_eq (And.intro (by simp only [List.length_set]; omega) (And.intro rfl (And.intro rfl ?_))))
  rw [uph_uph, uph_uph]
  have k48 : (uph h o (.inr (12, ((fs.set 68 (.int 0)).set 73 (.int 0)).set 74 (.int (-1))))) (o + 1 + 48) = some (.inl (3, 2048, .inl gF0)) := by rw [uph_ne (by omega)]; exact h48
  have h0 := loop 2048 0 gF0 rfl (fun j hj => absurd hj (Nat.not_lt_zero j))
  rw [uph_self k48] at h0
  exact go_loc (lv' := [(4, .int (nI 0)), (0, .ref o), (1, .int (nI hh)), (2, .int (nI d)), (3, .int (nI e))]) ⟨rfl, rfl, rfl, rfl, rfl, trivial⟩ h0
