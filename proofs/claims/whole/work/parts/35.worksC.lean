/-! the model's worksOut -/
set_option maxHeartbeats 8000000 in
theorem c_worksOut {l : Launch} {G : GG} {h : AH} {nx : Nat} {Post : Option Value → AH → Nat → Prop} {o d hh B st nR : Nat} {sl : Nat → Nat} {sh : Nat → Nat} {gsh gR gw gst gP : Nat → Int32} {fs : List Value} (hX : XC G ∧ TX l G) (hM : MA h o fs) (h41 : h (o + 1 + 41) = some (.inl (0, 4096, .inl gsh))) (h42 : h (o + 1 + 42) = some (.inl (0, 4096, .inl gP))) (h10 : h (o + 1 + 10) = some (.inl (0, 5, .inl gR))) (h11 : h (o + 1 + 11) = some (.inl (0, 30, .inl gw))) (h43 : h (o + 1 + 43) = some (.inl (0, 2, .inl gst))) (hd : d < 5) (hhh : hh < 2) (hB : B + 2 ^ nR ≤ 4096) (hst : st < 2 ^ 31) (es : ∀ u, u < 2 ^ nR → gsh (B + u) = nI (sh u)) (hsh : ∀ u, sh u < 2 ^ 31) (eR : gR d = nI nR) (hR6 : nR ≤ 6) (ew : ∀ r, r < nR → gw (6 * d + r) = nI (sl r) ∧ sl r < 10) (est : gst hh = nI st) (hP : ∀ g : Nat → Int32, (∀ v, v < 2 ^ nR → g (B + v) = stF (fun v => mvF nR sl (sh v) st v) nR v) → (∀ a, a < B ∨ B + 2 ^ nR ≤ a → g a = gP a) → Post none (uph h (o + 1 + 42) (.inl (0, 4096, .inl g))) nx) : Runs l G i_X12_worksOut 0 0 [.ref o, .int (nI hh), .int (nI d), .int (nI B)] h nx Post := by
  have hp : 2 ^ nR ≤ 64 := Nat.pow_le_pow_right (n := 2) (by decide) hR6
  have hnx : ∀ u, (fun v => mvF nR sl (sh v) st v) u < 2 ^ nR := fun u => mvF_lt (fun r hr => (ew r hr).2)
  have al : ∀ (g : Nat → Int32) (u : Nat) {Q : Option Value → AH → Nat → Prop}, u < 2 ^ nR → Q (some (.int (nI ((fun v => mvF nR sl (sh v) st v) u)))) (uph h (o + 1 + 42) (.inl (0, 4096, .inl g))) nx → Runs l G i_X12_allowed 0 0 [.ref o, .int (nI d), .int (nI B), .int (nI u), .int (nI st)] (uph h (o + 1 + 42) (.inl (0, 4096, .inl g))) nx Q := by
    intro g u Q hu hQ
    exact c_allowed (q64 := o + 1 + 41) (q24 := o + 1 + 10) (q25 := o + 1 + 11) hX (by rw [uph_ne (by omega)]; exact hM.1) (hM.2.2 41 (by decide)) (hM.2.2 10 (by decide)) (hM.2.2 11 (by decide)) (by rw [uph_ne (by omega)]; exact h41) (by rw [uph_ne (by omega)]; exact h10) (by rw [uph_ne (by omega)]; exact h11) hd (by omega) (by omega) hst (hsh u) (es u hu) eR hR6 ew hQ
  have i_add : ∀ u, nI B + nI u = nI (B + u) := fun u => nI_add B u
  have fin : ∀ (k u : Nat) (g : Nat → Int32), u + k = 2 ^ nR → (∀ a, a < B ∨ B + 2 ^ nR ≤ a → g a = gP a) → (∀ v, v < u → g (B + v) = stF (fun v => mvF nR sl (sh v) st v) nR v) → (∀ v, u ≤ v → v < 2 ^ nR → (g (B + v) = -3 ∧ ∀ s, ¬ ST (fun v => mvF nR sl (sh v) st v) nR v s) ∨ (g (B + v) ≠ -3 ∧ g (B + v) = stF (fun v => mvF nR sl (sh v) st v) nR v)) → Go l G 12 s_X12_worksOut 0 0 Post 243 [(6, .int (nI u)), (4, .int (nI (2 ^ nR))), (0, .ref o), (1, .int (nI hh)), (2, .int (nI d)), (3, .int (nI B))] [] (uph h (o + 1 + 42) (.inl (0, 4096, .inl g))) nx 0 0 := by
    intro k
    induction k with
    | zero =>
      intro u g hu hf h1 h2
      refine Go.of hX.2 ck_X12_worksOut [243] 20 ?_
      refine And.intro (fun _ => ?_) (fun cz => absurd (nI_le (by omega) (by omega)) cz)
      exact hP g (fun v hv => h1 v (by omega)) hf
    | succ k ih =>
      intro u g hu hf h1 h2
      have hul : u < 2 ^ nR := by omega
      refine Go.of hX.2 ck_X12_worksOut [243] 60 ?_
      refine And.intro (fun cz => absurd cz (nI_ge hul (by omega))) (fun _ => ?_)
      refine Exists.intro _ (And.intro (by rw [uph_ne (by omega)]; exact hM.1) (Exists.intro _ (And.intro (hM.2.2 42 (by decide)) ?_)))
      refine Exists.intro _ (Exists.intro _ (And.intro uph_eq (And.intro (by rw [i_add]; exact vp_in_nI (by omega) (by decide)) ?_)))
      rw [i_add, nI_clamp (by omega)]
      rcases h2 u (Nat.le_refl u) hul with ⟨h3, hno⟩ | ⟨h3, hok⟩
      · refine And.intro (fun cz => absurd h3 cz) (fun _ => ?_)
        refine Exists.intro _ (And.intro (by rw [uph_ne (by omega)]; exact hM.1) (Exists.intro _ (And.intro (hM.2.2 42 (by decide)) ?_)))
        refine Exists.intro _ (Exists.intro _ (And.intro uph_eq (And.intro (by rw [i_add]; exact vp_in_nI (by omega) (by decide)) ?_)))
        rw [i_add, nI_clamp (by omega), uph_uph]
        refine go_loc (lv' := [(6, .int (nI u + 1)), (4, .int (nI (2 ^ nR))), (0, .ref o), (1, .int (nI hh)), (2, .int (nI d)), (3, .int (nI B))]) ⟨rfl, rfl, rfl, rfl, rfl, rfl, trivial⟩ ?_
        rw [← nI_succ]
        refine ih (u + 1) _ (by omega) (fun a ha => (pk_un (by omega)).trans (hf a ha)) (fun v hv => ?_) (fun v hv hv2 => ?_)
        · by_cases e : v = u
          · rw [e, stF_none hno]; exact pk_us
          · exact (pk_un (by omega)).trans (h1 v (by omega))
        · have := h2 v (by omega) hv2
          rw [show upd g (B + u) (-2) (B + v) = g (B + v) from pk_un (by omega)]
          exact this
      · refine And.intro (fun _ => ?_) (fun cz => absurd cz h3)
        refine go_loc (lv' := [(6, .int (nI u + 1)), (4, .int (nI (2 ^ nR))), (0, .ref o), (1, .int (nI hh)), (2, .int (nI d)), (3, .int (nI B))]) ⟨rfl, rfl, rfl, rfl, rfl, rfl, trivial⟩ ?_
        rw [← nI_succ]
        refine ih (u + 1) g (by omega) hf (fun v hv => ?_) (fun v hv hv2 => h2 v (by omega) hv2)
        by_cases e : v = u
        · rw [e]; exact hok
        · exact h1 v (by omega)
  have pass : ∀ (k u : Nat) (g : Nat → Int32) (M : Nat) (fl : Bool), u + k = 2 ^ nR → WI (fun v => mvF nR sl (sh v) st v) nR B g → (∀ a, a < B ∨ B + 2 ^ nR ≤ a → g a = gP a) → (fl = false → cntO B g (2 ^ nR) ≤ M ∧ ∀ v, v < u → g (B + v) = -3 → ∃ w, isN (fun v => mvF nR sl (sh v) st v) nR v w ∧ g (B + w) = -3) → (fl = true → cntO B g (2 ^ nR) + 1 ≤ M) →
      (∀ g : Nat → Int32, WI (fun v => mvF nR sl (sh v) st v) nR B g → (∀ a, a < B ∨ B + 2 ^ nR ≤ a → g a = gP a) → cntO B g (2 ^ nR) + 1 ≤ M → Go l G 12 s_X12_worksOut 0 0 Post 62 [(5, .int (1)), (4, .int (nI (2 ^ nR))), (0, .ref o), (1, .int (nI hh)), (2, .int (nI d)), (3, .int (nI B))] [] (uph h (o + 1 + 42) (.inl (0, 4096, .inl g))) nx 0 0) →
      (∀ g : Nat → Int32, WI (fun v => mvF nR sl (sh v) st v) nR B g → (∀ a, a < B ∨ B + 2 ^ nR ≤ a → g a = gP a) → (∀ v, v < 2 ^ nR → g (B + v) = -3 → ∃ w, isN (fun v => mvF nR sl (sh v) st v) nR v w ∧ g (B + w) = -3) → Go l G 12 s_X12_worksOut 0 0 Post 62 [(5, .int (0)), (4, .int (nI (2 ^ nR))), (0, .ref o), (1, .int (nI hh)), (2, .int (nI d)), (3, .int (nI B))] [] (uph h (o + 1 + 42) (.inl (0, 4096, .inl g))) nx 0 0) →
      Go l G 12 s_X12_worksOut 0 0 Post 73 [(6, .int (nI u)), (5, .int (nI fl.toNat)), (4, .int (nI (2 ^ nR))), (0, .ref o), (1, .int (nI hh)), (2, .int (nI d)), (3, .int (nI B))] [] (uph h (o + 1 + 42) (.inl (0, 4096, .inl g))) nx 0 0 := by
    intro k
    induction k with
    | zero =>
      intro u g M fl hu hW hf hc0 hc1 K1 K0
      have eu : u = 2 ^ nR := by omega
      have eu : u = 2 ^ nR := by omega
      refine Go.of hX.2 ck_X12_worksOut [62] 20 ?_
      refine And.intro (fun _ => ?_) (fun cz => absurd (nI_le (by omega) (by omega)) cz)
      cases fl
      · exact go_loc (lv' := [(5, .int (0)), (4, .int (nI (2 ^ nR))), (0, .ref o), (1, .int (nI hh)), (2, .int (nI d)), (3, .int (nI B))]) ⟨rfl, rfl, rfl, rfl, rfl, rfl, trivial⟩ (K0 g hW hf (fun v hv => (hc0 rfl).2 v (by omega)))
      · exact go_loc (lv' := [(5, .int (1)), (4, .int (nI (2 ^ nR))), (0, .ref o), (1, .int (nI hh)), (2, .int (nI d)), (3, .int (nI B))]) ⟨rfl, rfl, rfl, rfl, rfl, rfl, trivial⟩ (K1 g hW hf (hc1 rfl))
    | succ k ih =>
      intro u g M fl hu hW hf hc0 hc1 K1 K0
      have hul : u < 2 ^ nR := by omega
      have skip : g (B + u) ≠ -3 ∨ (∃ w, isN (fun v => mvF nR sl (sh v) st v) nR u w ∧ g (B + w) = -3) → Go l G 12 s_X12_worksOut 0 0 Post 73 [(6, .int (nI u + 1)), (5, .int (nI fl.toNat)), (4, .int (nI (2 ^ nR))), (0, .ref o), (1, .int (nI hh)), (2, .int (nI d)), (3, .int (nI B))] [] (uph h (o + 1 + 42) (.inl (0, 4096, .inl g))) nx 0 0 := by
        intro hz
        rw [← nI_succ]
        refine ih (u + 1) g M fl (by omega) hW hf (fun hfl => ⟨(hc0 hfl).1, fun v hv hv3 => ?_⟩) hc1 K1 K0
        by_cases e : v = u
        · subst e
          exact hz.elim (fun z => absurd hv3 z) id
        · exact (hc0 hfl).2 v (by omega) hv3
      refine Go.of hX.2 ck_X12_worksOut [73, 122] 120 ?_
      refine And.intro (fun cz => absurd cz (nI_ge hul (by omega))) (fun _ => ?_)
      refine Exists.intro _ (And.intro (by rw [uph_ne (by omega)]; exact hM.1) (Exists.intro _ (And.intro (hM.2.2 42 (by decide)) ?_)))
      refine Exists.intro _ (Exists.intro _ (And.intro uph_eq (And.intro (by rw [i_add]; exact vp_in_nI (by omega) (by decide)) ?_)))
      rw [i_add, nI_clamp (by omega)]
      by_cases h3 : g (B + u) = -3
      · refine And.intro (fun _ => ?_) (fun cz => absurd h3 cz)
        refine Exists.intro _ (And.intro (by rw [uph_ne (by omega)]; exact hM.1) (Exists.intro _ (And.intro (hM.2.2 43 (by decide)) ?_)))
        refine Exists.intro _ (Exists.intro _ (And.intro (by rw [uph_ne (by omega)]; exact h43) (And.intro (vp_in_nI hhh (by decide)) ?_)))
        rw [nI_clamp (by omega), est]
        refine Exists.intro _ (And.intro (by rw [uph_ne (by omega)]; exact hM.1) (Exists.intro 0 (Exists.intro 0 (And.intro (Nat.le_refl _) (And.intro (Nat.le_refl _) (al g u hul ?_))))))
        have hnu : (fun v => mvF nR sl (sh v) st v) u ≠ 0 := by
          rcases hW u hul with hw | ⟨t, ht, hw, _⟩ | hw
          · exact hw.2
          · rw [h3] at hw; exact absurd hw.symm (nI_n2 (by omega)).2.1
          · rw [h3] at hw; exact absurd hw.1 (by decide)
        have tail : ∀ (kn : Bool), kn = knF ((fun v => mvF nR sl (sh v) st v) u) (fun r => g (B + (u ^^^ 2 ^ r))) nR → Go l G 12 s_X12_worksOut 0 0 Post 209 [(10, .int (nI nR)), (9, .int (nI kn.toNat)), (8, .int (toF ((fun v => mvF nR sl (sh v) st v) u) (fun r => g (B + (u ^^^ 2 ^ r))) nR)), (7, .int (nI ((fun v => mvF nR sl (sh v) st v) u))), (6, .int (nI u)), (5, .int (nI fl.toNat)), (4, .int (nI (2 ^ nR))), (0, .ref o), (1, .int (nI hh)), (2, .int (nI d)), (3, .int (nI B))] [] (uph h (o + 1 + 42) (.inl (0, 4096, .inl g))) nx 0 0 := by
          intro kn hkn
          refine Go.of hX.2 ck_X12_worksOut [73] 40 ?_
          cases kn
          · refine And.intro (fun cz => absurd (tN0 rfl) cz) (fun _ => ?_)
            refine go_loc (lv' := [(6, .int (nI u + 1)), (5, .int (nI fl.toNat)), (4, .int (nI (2 ^ nR))), (0, .ref o), (1, .int (nI hh)), (2, .int (nI d)), (3, .int (nI B))]) ⟨rfl, rfl, rfl, rfl, rfl, rfl, rfl, trivial⟩ (skip (Or.inr ?_))
            obtain ⟨r, hr, hb, he⟩ := knF_no hkn.symm
            exact ⟨_, ⟨r, hr, hb, rfl⟩, he⟩
          · refine And.intro (fun _ => ?_) (fun cz => absurd cz (tN1 rfl))
            refine Exists.intro _ (And.intro (by rw [uph_ne (by omega)]; exact hM.1) (Exists.intro _ (And.intro (hM.2.2 42 (by decide)) ?_)))
            refine Exists.intro _ (Exists.intro _ (And.intro uph_eq (And.intro (by rw [i_add]; exact vp_in_nI (by omega) (by decide)) ?_)))
            rw [i_add, nI_clamp (by omega), uph_uph]
            refine go_loc (lv' := [(6, .int (nI u + 1)), (5, .int (1)), (4, .int (nI (2 ^ nR))), (0, .ref o), (1, .int (nI hh)), (2, .int (nI d)), (3, .int (nI B))]) ⟨rfl, rfl, rfl, rfl, rfl, rfl, rfl, trivial⟩ ?_
            rw [← nI_succ]
            have hto := toF_ok hR6 hnx hul hW hkn.symm nR (Nat.le_refl _)
            have hx3 : toF ((fun v => mvF nR sl (sh v) st v) u) (fun r => g (B + (u ^^^ 2 ^ r))) nR ≠ -3 := by
              rcases hto with ⟨h1, _⟩ | ⟨s, hs, h1, _⟩ | ⟨h1, _⟩
              · rw [h1]; decide
              · rw [h1]; exact (nI_n2 (by omega)).2.1
              · rw [h1]; decide
            have hcn := (cntO_upd (x := toF ((fun v => mvF nR sl (sh v) st v) u) (fun r => g (B + (u ^^^ 2 ^ r))) nR) hx3 h3 (2 ^ nR)).2 hul
            have hM2 : cntO B (upd g (B + u) (toF ((fun v => mvF nR sl (sh v) st v) u) (fun r => g (B + (u ^^^ 2 ^ r))) nR)) (2 ^ nR) + 1 ≤ M := by
              cases fl
              · have := (hc0 rfl).1; omega
              · have := hc1 rfl; omega
            refine ih (u + 1) _ M true (by omega) (fun v hv => ?_) (fun a ha => (pk_un (by omega)).trans (hf a ha)) (fun z => by cases z) (fun _ => hM2) K1 K0
            by_cases e : v = u
            · subst e
              rw [show upd g (B + v) (toF ((fun v => mvF nR sl (sh v) st v) v) (fun r => g (B + (v ^^^ 2 ^ r))) nR) (B + v) = toF ((fun v => mvF nR sl (sh v) st v) v) (fun r => g (B + (v ^^^ 2 ^ r))) nR from pk_us]
              rcases hto with ⟨h1, h2⟩ | ⟨s, hs, h1, h2, _⟩ | h1
              · obtain ⟨w, r, hr, hb, _⟩ := isN_ex hnu (hnx v)
                rw [h2 r hr] at hb; cases hb
              · exact Or.inr (Or.inl ⟨s, hs, h1, ST.all hnu (fun w ⟨r, hr, hb, hw⟩ => hw ▸ h2 r hr hb)⟩)
              · exact Or.inr (Or.inr h1)
            · rw [show upd g (B + u) (toF ((fun v => mvF nR sl (sh v) st v) u) (fun r => g (B + (u ^^^ 2 ^ r))) nR) (B + v) = g (B + v) from pk_un (by omega)]
              exact hW v hv
        have fold : ∀ (kk j : Nat), j + kk = nR → Go l G 12 s_X12_worksOut 0 0 Post 122 [(10, .int (nI j)), (9, .int (nI (knF ((fun v => mvF nR sl (sh v) st v) u) (fun r => g (B + (u ^^^ 2 ^ r))) j).toNat)), (8, .int (toF ((fun v => mvF nR sl (sh v) st v) u) (fun r => g (B + (u ^^^ 2 ^ r))) j)), (7, .int (nI ((fun v => mvF nR sl (sh v) st v) u))), (6, .int (nI u)), (5, .int (nI fl.toNat)), (4, .int (nI (2 ^ nR))), (0, .ref o), (1, .int (nI hh)), (2, .int (nI d)), (3, .int (nI B))] [] (uph h (o + 1 + 42) (.inl (0, 4096, .inl g))) nx 0 0 := by
          intro kk
          induction kk with
          | zero =>
            intro j hj
            have ej : j = nR := by omega
            refine Go.of hX.2 ck_X12_worksOut [209] 30 ?_
            refine Exists.intro _ (And.intro (by rw [uph_ne (by omega)]; exact hM.1) (Exists.intro _ (And.intro (hM.2.2 10 (by decide)) ?_)))
            refine Exists.intro _ (Exists.intro _ (And.intro (by rw [uph_ne (by omega)]; exact h10) (And.intro (vp_in_nI hd (by decide)) ?_)))
            rw [nI_clamp (by omega), eR]
            refine And.intro (fun _ => ?_) (fun cz => absurd (nI_le (by omega) (by omega)) cz)
            rw [ej]
            exact tail _ rfl
          | succ kk ihk =>
            intro j hj
            have hjR : j < nR := by omega
            have nxt := ihk (j + 1) (by omega)
            refine Go.of hX.2 ck_X12_worksOut [122, 179] 80 ?_
            refine Exists.intro _ (And.intro (by rw [uph_ne (by omega)]; exact hM.1) (Exists.intro _ (And.intro (hM.2.2 10 (by decide)) ?_)))
            refine Exists.intro _ (Exists.intro _ (And.intro (by rw [uph_ne (by omega)]; exact h10) (And.intro (vp_in_nI hd (by decide)) ?_)))
            rw [nI_clamp (by omega), eR]
            refine And.intro (fun cz => absurd cz (nI_ge hjR (by omega))) (fun _ => ?_)
            have et : (nI ((fun v => mvF nR sl (sh v) st v) u) >>> (nI j &&& 31)) &&& 1 = nI (((fun v => mvF nR sl (sh v) st v) u).testBit j).toNat := nx_tb (Nat.lt_of_lt_of_le (hnx u) (by omega)) (by omega)
            cases hb : ((fun v => mvF nR sl (sh v) st v) u).testBit j
            · rw [hb] at et
              refine And.intro (fun cz => absurd et cz) (fun _ => ?_)
              rw [show knF ((fun v => mvF nR sl (sh v) st v) u) (fun r => g (B + (u ^^^ 2 ^ r))) (j + 1) = knF ((fun v => mvF nR sl (sh v) st v) u) (fun r => g (B + (u ^^^ 2 ^ r))) j from if_neg (by rw [hb]; decide), show toF ((fun v => mvF nR sl (sh v) st v) u) (fun r => g (B + (u ^^^ 2 ^ r))) (j + 1) = toF ((fun v => mvF nR sl (sh v) st v) u) (fun r => g (B + (u ^^^ 2 ^ r))) j from if_neg (by rw [hb]; decide), nI_succ] at nxt
              exact go_loc (lv' := [(10, .int (nI j + 1)), (9, .int (nI (knF ((fun v => mvF nR sl (sh v) st v) u) (fun r => g (B + (u ^^^ 2 ^ r))) j).toNat)), (8, .int (toF ((fun v => mvF nR sl (sh v) st v) u) (fun r => g (B + (u ^^^ 2 ^ r))) j)), (7, .int (nI ((fun v => mvF nR sl (sh v) st v) u))), (6, .int (nI u)), (5, .int (nI fl.toNat)), (4, .int (nI (2 ^ nR))), (0, .ref o), (1, .int (nI hh)), (2, .int (nI d)), (3, .int (nI B))]) ⟨rfl, rfl, rfl, rfl, rfl, rfl, rfl, rfl, rfl, rfl, rfl, trivial⟩ nxt
            · rw [hb] at et
              refine And.intro (fun _ => ?_) (fun cz => absurd (et.symm.trans cz) (by decide))
              have hvl : u ^^^ 2 ^ j < 2 ^ nR := Nat.xor_lt_two_pow hul (Nat.pow_lt_pow_right (by decide) hjR)
              have ei : nI B + (nI u ^^^ ((1 : Int32) <<< (nI j &&& 31))) = nI (B + (u ^^^ 2 ^ j)) := by rw [nx_pow (by omega), nx_xor, nI_add]
              refine Exists.intro _ (And.intro (by rw [uph_ne (by omega)]; exact hM.1) (Exists.intro _ (And.intro (hM.2.2 42 (by decide)) ?_)))
              refine Exists.intro _ (Exists.intro _ (And.intro uph_eq (And.intro (by rw [ei]; exact vp_in_nI (by omega) (by decide)) ?_)))
              rw [ei, nI_clamp (by omega)]
              rw [show knF ((fun v => mvF nR sl (sh v) st v) u) (fun r => g (B + (u ^^^ 2 ^ r))) (j + 1) = (knF ((fun v => mvF nR sl (sh v) st v) u) (fun r => g (B + (u ^^^ 2 ^ r))) j && decide (g (B + (u ^^^ 2 ^ j)) ≠ -3)) from if_pos hb, show toF ((fun v => mvF nR sl (sh v) st v) u) (fun r => g (B + (u ^^^ 2 ^ r))) (j + 1) = (if toF ((fun v => mvF nR sl (sh v) st v) u) (fun r => g (B + (u ^^^ 2 ^ r))) j = -1 ∨ toF ((fun v => mvF nR sl (sh v) st v) u) (fun r => g (B + (u ^^^ 2 ^ r))) j = g (B + (u ^^^ 2 ^ j)) then g (B + (u ^^^ 2 ^ j)) else -2) from if_pos hb, nI_succ] at nxt
              have s179 : ∀ kb : Bool, kb = (knF ((fun v => mvF nR sl (sh v) st v) u) (fun r => g (B + (u ^^^ 2 ^ r))) j && decide (g (B + (u ^^^ 2 ^ j)) ≠ -3)) → Go l G 12 s_X12_worksOut 0 0 Post 179 [(11, .int (g (B + (u ^^^ 2 ^ j)))), (10, .int (nI j)), (9, .int (nI (knF ((fun v => mvF nR sl (sh v) st v) u) (fun r => g (B + (u ^^^ 2 ^ r))) j).toNat)), (8, .int (toF ((fun v => mvF nR sl (sh v) st v) u) (fun r => g (B + (u ^^^ 2 ^ r))) j)), (7, .int (nI ((fun v => mvF nR sl (sh v) st v) u))), (6, .int (nI u)), (5, .int (nI fl.toNat)), (4, .int (nI (2 ^ nR))), (0, .ref o), (1, .int (nI hh)), (2, .int (nI d)), (3, .int (nI B))] [.int (nI kb.toNat)] (uph h (o + 1 + 42) (.inl (0, 4096, .inl g))) nx 0 0 := by
                intro kb hkb
                rw [← hkb] at nxt
                refine Go.of hX.2 ck_X12_worksOut [122] 40 ?_
                by_cases h1 : toF ((fun v => mvF nR sl (sh v) st v) u) (fun r => g (B + (u ^^^ 2 ^ r))) j = -1
                · rw [if_pos (Or.inl h1)] at nxt
                  refine And.intro (fun _ => ?_) (fun cz => absurd h1 cz)
                  exact go_loc (lv' := [(10, .int (nI j + 1)), (9, .int (nI kb.toNat)), (8, .int (g (B + (u ^^^ 2 ^ j)))), (7, .int (nI ((fun v => mvF nR sl (sh v) st v) u))), (6, .int (nI u)), (5, .int (nI fl.toNat)), (4, .int (nI (2 ^ nR))), (0, .ref o), (1, .int (nI hh)), (2, .int (nI d)), (3, .int (nI B))]) ⟨rfl, rfl, rfl, rfl, rfl, rfl, rfl, rfl, rfl, rfl, rfl, trivial⟩ nxt
                · refine And.intro (fun cz => absurd cz h1) (fun _ => ?_)
                  by_cases h2 : toF ((fun v => mvF nR sl (sh v) st v) u) (fun r => g (B + (u ^^^ 2 ^ r))) j = g (B + (u ^^^ 2 ^ j))
                  · rw [if_pos (Or.inr h2)] at nxt
                    refine And.intro (fun cz => absurd h2 cz) (fun _ => ?_)
                    exact go_loc (lv' := [(10, .int (nI j + 1)), (9, .int (nI kb.toNat)), (8, .int (g (B + (u ^^^ 2 ^ j)))), (7, .int (nI ((fun v => mvF nR sl (sh v) st v) u))), (6, .int (nI u)), (5, .int (nI fl.toNat)), (4, .int (nI (2 ^ nR))), (0, .ref o), (1, .int (nI hh)), (2, .int (nI d)), (3, .int (nI B))]) ⟨rfl, rfl, rfl, rfl, rfl, rfl, rfl, rfl, rfl, rfl, rfl, trivial⟩ nxt
                  · rw [if_neg (fun z => z.elim h1 h2)] at nxt
                    refine And.intro (fun _ => ?_) (fun cz => absurd cz h2)
                    exact go_loc (lv' := [(10, .int (nI j + 1)), (9, .int (nI kb.toNat)), (8, .int (-2)), (7, .int (nI ((fun v => mvF nR sl (sh v) st v) u))), (6, .int (nI u)), (5, .int (nI fl.toNat)), (4, .int (nI (2 ^ nR))), (0, .ref o), (1, .int (nI hh)), (2, .int (nI d)), (3, .int (nI B))]) ⟨rfl, rfl, rfl, rfl, rfl, rfl, rfl, rfl, rfl, rfl, rfl, trivial⟩ nxt
              cases hkj : knF ((fun v => mvF nR sl (sh v) st v) u) (fun r => g (B + (u ^^^ 2 ^ r))) j
              · rw [hkj] at s179
                refine And.intro (fun _ => ?_) (fun cz => absurd (tN0 rfl) cz)
                exact go_loc (lv' := [(11, .int (g (B + (u ^^^ 2 ^ j)))), (10, .int (nI j)), (9, .int (nI false.toNat)), (8, .int (toF ((fun v => mvF nR sl (sh v) st v) u) (fun r => g (B + (u ^^^ 2 ^ r))) j)), (7, .int (nI ((fun v => mvF nR sl (sh v) st v) u))), (6, .int (nI u)), (5, .int (nI fl.toNat)), (4, .int (nI (2 ^ nR))), (0, .ref o), (1, .int (nI hh)), (2, .int (nI d)), (3, .int (nI B))]) ⟨rfl, rfl, rfl, rfl, rfl, rfl, rfl, rfl, rfl, rfl, rfl, rfl, trivial⟩ (s179 false rfl)
              · rw [hkj] at s179
                refine And.intro (fun cz => absurd cz (tN1 rfl)) (fun _ => ?_)
                by_cases he : g (B + (u ^^^ 2 ^ j)) = -3
                · refine And.intro (fun _ => ?_) (fun cz => absurd he cz)
                  exact go_loc (lv' := [(11, .int (g (B + (u ^^^ 2 ^ j)))), (10, .int (nI j)), (9, .int (nI true.toNat)), (8, .int (toF ((fun v => mvF nR sl (sh v) st v) u) (fun r => g (B + (u ^^^ 2 ^ r))) j)), (7, .int (nI ((fun v => mvF nR sl (sh v) st v) u))), (6, .int (nI u)), (5, .int (nI fl.toNat)), (4, .int (nI (2 ^ nR))), (0, .ref o), (1, .int (nI hh)), (2, .int (nI d)), (3, .int (nI B))]) ⟨rfl, rfl, rfl, rfl, rfl, rfl, rfl, rfl, rfl, rfl, rfl, rfl, trivial⟩ (s179 false (by rw [he]; rfl))
                · refine And.intro (fun cz => absurd cz he) (fun _ => ?_)
                  exact go_loc (lv' := [(11, .int (g (B + (u ^^^ 2 ^ j)))), (10, .int (nI j)), (9, .int (nI true.toNat)), (8, .int (toF ((fun v => mvF nR sl (sh v) st v) u) (fun r => g (B + (u ^^^ 2 ^ r))) j)), (7, .int (nI ((fun v => mvF nR sl (sh v) st v) u))), (6, .int (nI u)), (5, .int (nI fl.toNat)), (4, .int (nI (2 ^ nR))), (0, .ref o), (1, .int (nI hh)), (2, .int (nI d)), (3, .int (nI B))]) ⟨rfl, rfl, rfl, rfl, rfl, rfl, rfl, rfl, rfl, rfl, rfl, rfl, trivial⟩ (s179 true (by rw [decide_eq_true he]; rfl))
        exact go_loc (lv' := [(10, .int (nI 0)), (9, .int (nI (knF ((fun v => mvF nR sl (sh v) st v) u) (fun r => g (B + (u ^^^ 2 ^ r))) 0).toNat)), (8, .int (toF ((fun v => mvF nR sl (sh v) st v) u) (fun r => g (B + (u ^^^ 2 ^ r))) 0)), (7, .int (nI ((fun v => mvF nR sl (sh v) st v) u))), (6, .int (nI u)), (5, .int (nI fl.toNat)), (4, .int (nI (2 ^ nR))), (0, .ref o), (1, .int (nI hh)), (2, .int (nI d)), (3, .int (nI B))]) ⟨rfl, rfl, rfl, rfl, rfl, rfl, rfl, rfl, rfl, rfl, rfl, trivial⟩ (fold nR 0 (Nat.zero_add _))
      · refine And.intro (fun cz => absurd cz h3) (fun _ => ?_)
        exact go_loc (lv' := [(6, .int (nI u + 1)), (5, .int (nI fl.toNat)), (4, .int (nI (2 ^ nR))), (0, .ref o), (1, .int (nI hh)), (2, .int (nI d)), (3, .int (nI B))]) ⟨rfl, rfl, rfl, rfl, rfl, rfl, rfl, trivial⟩ (skip (Or.inl h3))
  have ends : ∀ g : Nat → Int32, WI (fun v => mvF nR sl (sh v) st v) nR B g → (∀ a, a < B ∨ B + 2 ^ nR ≤ a → g a = gP a) → (∀ v, v < 2 ^ nR → g (B + v) = -3 → ∃ w, isN (fun v => mvF nR sl (sh v) st v) nR v w ∧ g (B + w) = -3) → Go l G 12 s_X12_worksOut 0 0 Post 62 [(5, .int (0)), (4, .int (nI (2 ^ nR))), (0, .ref o), (1, .int (nI hh)), (2, .int (nI d)), (3, .int (nI B))] [] (uph h (o + 1 + 42) (.inl (0, 4096, .inl g))) nx 0 0 := by
    intro g hW hf hF
    refine Go.of hX.2 ck_X12_worksOut [243] 20 ?_
    refine And.intro (fun _ => ?_) (fun cz => by first | exact absurd cz (by decide) | exact absurd (by decide) cz)
    refine go_loc (lv' := [(6, .int (nI 0)), (4, .int (nI (2 ^ nR))), (0, .ref o), (1, .int (nI hh)), (2, .int (nI d)), (3, .int (nI B))]) ⟨rfl, rfl, rfl, rfl, rfl, rfl, trivial⟩ (fin (2 ^ nR) 0 g (Nat.zero_add _) hf (fun v hv => absurd hv (Nat.not_lt_zero v)) (fun v _ hv => ?_))
    rcases hW v hv with hw | ⟨t, ht, hw, hs⟩ | ⟨hw, hs⟩
    · exact Or.inl ⟨hw.1, fun s hs => by obtain ⟨n, hn⟩ := hs; exact WI_end hW hF hv hn hw.1⟩
    · exact Or.inr ⟨by rw [hw]; exact (nI_n2 (by omega)).2.1, by rw [hw, stF_some hnx hs]⟩
    · exact Or.inr ⟨by rw [hw]; decide, by rw [hw, stF_none hs]⟩
  have wh : ∀ (M : Nat) (g : Nat → Int32), WI (fun v => mvF nR sl (sh v) st v) nR B g → (∀ a, a < B ∨ B + 2 ^ nR ≤ a → g a = gP a) → cntO B g (2 ^ nR) ≤ M → Go l G 12 s_X12_worksOut 0 0 Post 62 [(5, .int (1)), (4, .int (nI (2 ^ nR))), (0, .ref o), (1, .int (nI hh)), (2, .int (nI d)), (3, .int (nI B))] [] (uph h (o + 1 + 42) (.inl (0, 4096, .inl g))) nx 0 0 := by
    intro M
    induction M with
    | zero =>
      intro g hW hf hc
      refine Go.of hX.2 ck_X12_worksOut [73] 20 ?_
      refine And.intro (fun cz => by first | exact absurd cz (by decide) | exact absurd (by decide) cz) (fun _ => ?_)
      exact go_loc (lv' := [(6, .int (nI 0)), (5, .int (nI false.toNat)), (4, .int (nI (2 ^ nR))), (0, .ref o), (1, .int (nI hh)), (2, .int (nI d)), (3, .int (nI B))]) ⟨rfl, rfl, rfl, rfl, rfl, rfl, rfl, trivial⟩ (pass (2 ^ nR) 0 g 0 false (Nat.zero_add _) hW hf (fun _ => ⟨hc, fun v hv => absurd hv (Nat.not_lt_zero v)⟩) (fun z => by cases z) (fun g2 _ _ h2 => absurd h2 (Nat.not_succ_le_zero _)) ends)
    | succ M ih =>
      intro g hW hf hc
      refine Go.of hX.2 ck_X12_worksOut [73] 20 ?_
      refine And.intro (fun cz => by first | exact absurd cz (by decide) | exact absurd (by decide) cz) (fun _ => ?_)
      exact go_loc (lv' := [(6, .int (nI 0)), (5, .int (nI false.toNat)), (4, .int (nI (2 ^ nR))), (0, .ref o), (1, .int (nI hh)), (2, .int (nI d)), (3, .int (nI B))]) ⟨rfl, rfl, rfl, rfl, rfl, rfl, rfl, trivial⟩ (pass (2 ^ nR) 0 g (M + 1) false (Nat.zero_add _) hW hf (fun _ => ⟨hc, fun v hv => absurd hv (Nat.not_lt_zero v)⟩) (fun z => by cases z) (fun g2 q1 q2 h2 => ih g2 q1 q2 (by omega)) ends)
  have init : ∀ (k u : Nat) (g : Nat → Int32), u + k = 2 ^ nR → (∀ a, a < B ∨ B + 2 ^ nR ≤ a → g a = gP a) → (∀ v, v < u → (g (B + v) = -3 ∧ (fun v => mvF nR sl (sh v) st v) v ≠ 0) ∨ (g (B + v) = nI v ∧ (fun v => mvF nR sl (sh v) st v) v = 0)) → Go l G 12 s_X12_worksOut 0 0 Post 13 [(5, .int (nI u)), (4, .int (nI (2 ^ nR))), (0, .ref o), (1, .int (nI hh)), (2, .int (nI d)), (3, .int (nI B))] [] (uph h (o + 1 + 42) (.inl (0, 4096, .inl g))) nx 0 0 := by
    intro k
    induction k with
    | zero =>
      intro u g hu hf h1
      refine Go.of hX.2 ck_X12_worksOut [62] 20 ?_
      refine And.intro (fun _ => ?_) (fun cz => absurd (nI_le (by omega) (by omega)) cz)
      refine go_loc (lv' := [(5, .int (1)), (4, .int (nI (2 ^ nR))), (0, .ref o), (1, .int (nI hh)), (2, .int (nI d)), (3, .int (nI B))]) ⟨rfl, rfl, rfl, rfl, rfl, rfl, trivial⟩ (wh (2 ^ nR) g (fun v hv => ?_) hf (cntO_le B g _))
      rcases h1 v (by omega) with h2 | h2
      · exact Or.inl h2
      · exact Or.inr (Or.inl ⟨v, hv, h2.1, ST.self h2.2⟩)
    | succ k ih =>
      intro u g hu hf h1
      have hul : u < 2 ^ nR := by omega
      refine Go.of hX.2 ck_X12_worksOut [13] 60 ?_
      refine And.intro (fun cz => absurd cz (nI_ge hul (by omega))) (fun _ => ?_)
      refine Exists.intro _ (And.intro (by rw [uph_ne (by omega)]; exact hM.1) (Exists.intro _ (And.intro (hM.2.2 42 (by decide)) ?_)))
      refine Exists.intro _ (And.intro (by rw [uph_ne (by omega)]; exact hM.1) (Exists.intro _ (And.intro (hM.2.2 43 (by decide)) ?_)))
      refine Exists.intro _ (Exists.intro _ (And.intro (by rw [uph_ne (by omega)]; exact h43) (And.intro (vp_in_nI hhh (by decide)) ?_)))
      rw [nI_clamp (by omega), est]
      refine Exists.intro _ (And.intro (by rw [uph_ne (by omega)]; exact hM.1) (Exists.intro 0 (Exists.intro 0 (And.intro (Nat.le_refl _) (And.intro (Nat.le_refl _) (al g u hul ?_))))))
      by_cases h0 : (fun v => mvF nR sl (sh v) st v) u = 0
      · refine And.intro (fun cz => absurd (by rw [h0]; rfl) cz) (fun _ => ?_)
        refine Exists.intro _ (Exists.intro _ (And.intro uph_eq (And.intro (by rw [i_add]; exact vp_in_nI (by omega) (by decide)) ?_)))
        rw [i_add, nI_clamp (by omega), uph_uph]
        refine go_loc (lv' := [(5, .int (nI u + 1)), (4, .int (nI (2 ^ nR))), (0, .ref o), (1, .int (nI hh)), (2, .int (nI d)), (3, .int (nI B))]) ⟨rfl, rfl, rfl, rfl, rfl, rfl, trivial⟩ ?_
        rw [← nI_succ]
        refine ih (u + 1) _ (by omega) (fun a ha => (pk_un (by omega)).trans (hf a ha)) (fun v hv => ?_)
        by_cases e : v = u
        · rw [e]; exact Or.inr ⟨pk_us, h0⟩
        · rw [show upd g (B + u) (nI u) (B + v) = g (B + v) from pk_un (by omega)]; exact h1 v (by omega)
      · refine And.intro (fun _ => ?_) (fun cz => absurd ((nI_eq (Nat.lt_of_lt_of_le (hnx u) (by omega)) (by decide)).mp (show nI ((fun v => mvF nR sl (sh v) st v) u) = nI 0 from cz)) h0)
        refine Exists.intro _ (Exists.intro _ (And.intro uph_eq (And.intro (by rw [i_add]; exact vp_in_nI (by omega) (by decide)) ?_)))
        rw [i_add, nI_clamp (by omega), uph_uph]
        refine go_loc (lv' := [(5, .int (nI u + 1)), (4, .int (nI (2 ^ nR))), (0, .ref o), (1, .int (nI hh)), (2, .int (nI d)), (3, .int (nI B))]) ⟨rfl, rfl, rfl, rfl, rfl, rfl, trivial⟩ ?_
        rw [← nI_succ]
        refine ih (u + 1) _ (by omega) (fun a ha => (pk_un (by omega)).trans (hf a ha)) (fun v hv => ?_)
        by_cases e : v = u
        · rw [e]; exact Or.inl ⟨pk_us, h0⟩
        · rw [show upd g (B + u) (-3) (B + v) = g (B + v) from pk_un (by omega)]; exact h1 v (by omega)
  refine en_X12_worksOut hX [13] 40 rfl ?_
  refine Exists.intro _ (And.intro hM.1 (Exists.intro _ (And.intro (hM.2.2 10 (by decide)) ?_)))
  refine Exists.intro _ (Exists.intro _ (And.intro h10 (And.intro (vp_in_nI hd (by decide)) ?_)))
  rw [nI_clamp (by omega), eR]
  have h0 := init (2 ^ nR) 0 gP (Nat.zero_add _) (fun _ _ => rfl) (fun v hv => absurd hv (Nat.not_lt_zero v))
  rw [uph_self h42, ← nx_pow (by omega)] at h0
  exact go_loc (lv' := [(5, .int (nI 0)), (4, .int ((1 : Int32) <<< (nI nR &&& 31))), (0, .ref o), (1, .int (nI hh)), (2, .int (nI d)), (3, .int (nI B))]) ⟨rfl, rfl, rfl, rfl, rfl, rfl, trivial⟩ h0
