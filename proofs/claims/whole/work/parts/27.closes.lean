/-! the model's contacts, with welds, breaks and crossings -/
def bsB (wl br tg : Nat → Bool) (k : Nat) : Bool := wl k || (!br k && tg k)
def clB (wl br cr tg : Nat → Bool) (k : Nat) : Bool := bsB wl br tg k || ((cr k && bsB wl br tg (k + 1)) || (decide (0 < k) && (cr (k - 1) && bsB wl br tg (k - 1))))
theorem nar_b (v : Bool) : vp_nar (TY 3) (nI v.toNat) = nI v.toNat := by cases v <;> decide
theorem tN0 {v : Bool} (h : v = false) : nI v.toNat = 0 := by rw [h]; rfl
theorem tN1 {v : Bool} (h : v = true) : ¬ nI v.toNat = 0 := by rw [h]; decide
set_option maxHeartbeats 4000000 in
theorem c_closes {l : Launch} {G : GG} {h : AH} {nx : Nat} {Post : Option Value → AH → Nat → Prop} {o d on up many q22 q32 q34 q35 q56 q58 q59 q60 q63 : Nat} {wl br cr nt : Nat → Bool} {tr : Nat → Bool} {of : Nat → Nat} {trk gm go gn gw gb gc gB gC : Nat → Int32} {fs : List Value} (hX : XC G ∧ TX l G) (ho : h o = some (.inr (12, fs))) (f22 : fs[22]? = some (.ref q22)) (f32 : fs[32]? = some (.ref q32)) (f34 : fs[34]? = some (.ref q34)) (f35 : fs[35]? = some (.ref q35)) (f56 : fs[56]? = some (.ref q56)) (f58 : fs[58]? = some (.ref q58)) (f59 : fs[59]? = some (.ref q59)) (f60 : fs[60]? = some (.ref q60)) (f63 : fs[63]? = some (.ref q63)) (h22 : h q22 = some (.inl (3, 25, .inl trk))) (h32 : h q32 = some (.inl (0, 5, .inl gm))) (h34 : h q34 = some (.inl (0, 200, .inl go))) (h35 : h q35 = some (.inl (3, 200, .inl gn))) (h56 : h q56 = some (.inl (3, 40, .inl gC))) (h58 : h q58 = some (.inl (3, 40, .inl gw))) (h59 : h q59 = some (.inl (3, 40, .inl gb))) (h60 : h q60 = some (.inl (3, 40, .inl gc))) (h63 : h q63 = some (.inl (3, 40, .inl gB))) (n22 : q22 ≠ q63) (n35 : q35 ≠ q63) (n58 : q58 ≠ q63) (n59 : q59 ≠ q63) (n60 : q60 ≠ q63) (n56 : q56 ≠ q63) (n606 : q60 ≠ q56) (hd : d < 5) (hm : gm d = nI many) (hm40 : many ≤ 40) (hon : on < 2 ^ 31) (hup : up < 2 ^ 31) (eo : ∀ k, k < many → go (40 * d + k) = nI (of k) ∧ (of k < 5 ∨ (10 ≤ of k ∧ of k < 16)) ∧ gn (40 * d + k) = nI (nt k).toNat) (et : ∀ i, i < 5 → trk (5 * d + i) = nI (tr i).toNat) (ew : ∀ k, k < 40 → gw k = nI (wl k).toNat) (eb : ∀ k, k < 40 → gb k = nI (br k).toNat) (ec : ∀ k, k < 40 → gc k = nI (cr k).toNat) (hcr : ∀ k, cr k = true → k + 1 < many) (hP : ∀ g1 g2 : Nat → Int32, (∀ k, k < many → g2 k = nI (clB wl br cr (fun k => thv tr on up (of k) ^^ nt k) k).toNat) → Post none (uph (uph h q63 (.inl (3, 40, .inl g1))) q56 (.inl (3, 40, .inl g2))) nx) : Runs l G i_X12_closes 0 0 [.ref o, .int (nI d), .int (nI on), .int (nI up)] h nx Post := by
  have no : ∀ {q t N : Nat} {f : Nat → Int32}, h q = some (.inl (t, N, .inl f)) → q ≠ o := fun hq e => by rw [e, ho] at hq; cases hq
  have n34 : q34 ≠ q63 := fun e => by rw [e, h63] at h34; cases h34
  have n6 : o ≠ q63 := Ne.symm (no h63)
  have n5 : o ≠ q56 := Ne.symm (no h56)
  have store2 : ∀ (k : Nat) (g g2 : Nat → Int32) (v : Bool), k < many → v = clB wl br cr (fun k => thv tr on up (of k) ^^ nt k) k → (∀ i, i < k → g2 i = nI (clB wl br cr (fun k => thv tr on up (of k) ^^ nt k) i).toNat) → (∀ g3 : Nat → Int32, (∀ i, i < k + 1 → g3 i = nI (clB wl br cr (fun k => thv tr on up (of k) ^^ nt k) i).toNat) → Go l G 12 s_X12_closes 0 0 Post 92 [(5, .int (nI (k + 1))), (4, .int (nI many)), (0, .ref o), (1, .int (nI d)), (2, .int (nI on)), (3, .int (nI up))] [] (uph (uph h q63 (.inl (3, 40, .inl g))) q56 (.inl (3, 40, .inl g3))) nx 0 0) → Go l G 12 s_X12_closes 0 0 Post 171 [(5, .int (nI k)), (4, .int (nI many)), (0, .ref o), (1, .int (nI d)), (2, .int (nI on)), (3, .int (nI up))] [.int (nI v.toNat), .int (nI k), .ref q56] (uph (uph h q63 (.inl (3, 40, .inl g))) q56 (.inl (3, 40, .inl g2))) nx 0 0 := by
    intro k g g2 v hk hv hg hK
    refine Go.of hX.2 ck_X12_closes [92] 20 ?_
    refine Exists.intro 3 (Exists.intro _ (Exists.intro _ (And.intro uph_eq (And.intro (Or.inr rfl) (And.intro (vp_in_nI (by omega) (by decide)) ?_)))))
    rw [uph_uph, nI_clamp (by omega), nar_b]
    refine go_loc (lv' := [(5, .int (nI k + 1)), (4, .int (nI many)), (0, .ref o), (1, .int (nI d)), (2, .int (nI on)), (3, .int (nI up))]) ⟨rfl, rfl, rfl, rfl, rfl, rfl, trivial⟩ ?_
    rw [← nI_succ]
    refine hK _ (fun i hi => ?_)
    by_cases e : i = k
    · rw [e, hv]; exact pk_us
    · rw [pk_un e]; exact hg i (by omega)
  have loop2 : ∀ (j k : Nat) (g g2 : Nat → Int32), k + j = many → (∀ i, i < many → g i = nI (bsB wl br (fun k => thv tr on up (of k) ^^ nt k) i).toNat) → (∀ i, i < k → g2 i = nI (clB wl br cr (fun k => thv tr on up (of k) ^^ nt k) i).toNat) → Go l G 12 s_X12_closes 0 0 Post 92 [(5, .int (nI k)), (4, .int (nI many)), (0, .ref o), (1, .int (nI d)), (2, .int (nI on)), (3, .int (nI up))] [] (uph (uph h q63 (.inl (3, 40, .inl g))) q56 (.inl (3, 40, .inl g2))) nx 0 0 := by
    intro j
    induction j with
    | zero =>
      intro k g g2 hk hg hg2
      refine Go.of hX.2 ck_X12_closes [92] 20 ?_
      refine And.intro (fun _ => ?_) (fun c => absurd (nI_le (by omega) (by omega)) c)
      exact hP g g2 (fun i hi => hg2 i (by omega))
    | succ j ih =>
      intro k g g2 hk hg hg2
      have hkm : k < many := by omega
      have hs : ∀ v : Bool, v = clB wl br cr (fun k => thv tr on up (of k) ^^ nt k) k → Go l G 12 s_X12_closes 0 0 Post 171 [(5, .int (nI k)), (4, .int (nI many)), (0, .ref o), (1, .int (nI d)), (2, .int (nI on)), (3, .int (nI up))] [.int (nI v.toNat), .int (nI k), .ref q56] (uph (uph h q63 (.inl (3, 40, .inl g))) q56 (.inl (3, 40, .inl g2))) nx 0 0 := fun v hv => store2 k g g2 v hkm hv hg2 (fun g3 h3 => ih (k + 1) g g3 (by omega) hg h3)
      have ho2 : (uph (uph h q63 (.inl (3, 40, .inl g))) q56 (.inl (3, 40, .inl g2))) o = some (.inr (12, fs)) := by rw [uph_ne n5, uph_ne n6]; exact ho
      have hb2 : (uph (uph h q63 (.inl (3, 40, .inl g))) q56 (.inl (3, 40, .inl g2))) q63 = some (.inl (3, 40, .inl g)) := by rw [uph_ne (Ne.symm n56)]; exact uph_eq
      have hc2 : (uph (uph h q63 (.inl (3, 40, .inl g))) q56 (.inl (3, 40, .inl g2))) q60 = some (.inl (3, 40, .inl gc)) := by rw [uph_ne n606, uph_ne n60]; exact h60
      refine Go.of hX.2 ck_X12_closes [171, 137] 120 ?_
      refine And.intro (fun c => absurd c (nI_ge hkm (by omega))) (fun _ => ?_)
      refine Exists.intro _ (And.intro ho2 (Exists.intro _ (And.intro f56 ?_)))
      refine Exists.intro _ (And.intro ho2 (Exists.intro _ (And.intro f63 ?_)))
      refine Exists.intro 3 (Exists.intro _ (Exists.intro _ (And.intro hb2 (And.intro (Or.inr rfl) (And.intro (vp_in_nI (by omega) (by decide)) ?_)))))
      rw [nI_clamp (by omega), hg k hkm]
      have fin : ∀ v : Bool, v = clB wl br cr (fun k => thv tr on up (of k) ^^ nt k) k → Go l G 12 s_X12_closes 0 0 Post 171 [(5, .int (nI k)), (4, .int (nI many)), (0, .ref o), (1, .int (nI d)), (2, .int (nI on)), (3, .int (nI up))] [.int (nI v.toNat), .int (nI k), .ref q56] (uph (uph h q63 (.inl (3, 40, .inl g))) q56 (.inl (3, 40, .inl g2))) nx 0 0 := hs
      cases hbk : bsB wl br (fun k => thv tr on up (of k) ^^ nt k) k
      · refine And.intro (fun c => absurd (tN0 rfl) c) (fun _ => ?_)
        have prev : clB wl br cr (fun k => thv tr on up (of k) ^^ nt k) k = ((cr k && bsB wl br (fun k => thv tr on up (of k) ^^ nt k) (k + 1)) || (decide (0 < k) && (cr (k - 1) && bsB wl br (fun k => thv tr on up (of k) ^^ nt k) (k - 1)))) := by unfold clB; rw [hbk, Bool.false_or]
        refine Exists.intro _ (And.intro ho2 (Exists.intro _ (And.intro f60 ?_)))
        refine Exists.intro 3 (Exists.intro _ (Exists.intro _ (And.intro hc2 (And.intro (Or.inr rfl) (And.intro (vp_in_nI (by omega) (by decide)) ?_)))))
        rw [nI_clamp (by omega), ec k (by omega)]
        have t137 : (cr k && bsB wl br (fun k => thv tr on up (of k) ^^ nt k) (k + 1)) = false → Go l G 12 s_X12_closes 0 0 Post 137 [(5, .int (nI k)), (4, .int (nI many)), (0, .ref o), (1, .int (nI d)), (2, .int (nI on)), (3, .int (nI up))] [.int (nI k), .ref q56] (uph (uph h q63 (.inl (3, 40, .inl g))) q56 (.inl (3, 40, .inl g2))) nx 0 0 := by
          intro hz
          rw [hz, Bool.false_or] at prev
          refine Go.of hX.2 ck_X12_closes [171] 60 ?_
          by_cases hk0 : k = 0
          · subst hk0
            refine And.intro (fun _ => ?_) (fun cz => absurd (by decide) cz)
            exact fin false (by rw [prev]; rfl)
          · refine And.intro (fun c => absurd c (nI_nle (by omega) (by omega))) (fun _ => ?_)
            have es : nI k - 1 = nI (k - 1) := nI_sub (b := 1) (by omega)
            rw [decide_eq_true (show 0 < k by omega), Bool.true_and] at prev
            refine Exists.intro _ (And.intro ho2 (Exists.intro _ (And.intro f60 ?_)))
            refine Exists.intro 3 (Exists.intro _ (Exists.intro _ (And.intro hc2 (And.intro (Or.inr rfl) (And.intro (by rw [es]; exact vp_in_nI (by omega) (by decide)) ?_)))))
            rw [es, nI_clamp (by omega), ec (k - 1) (by omega)]
            cases hc1 : cr (k - 1)
            · refine And.intro (fun _ => ?_) (fun c => absurd (tN0 rfl) c)
              exact fin false (by rw [prev, hc1]; rfl)
            · refine And.intro (fun c => absurd c (tN1 rfl)) (fun _ => ?_)
              refine Exists.intro _ (And.intro ho2 (Exists.intro _ (And.intro f63 ?_)))
              refine Exists.intro 3 (Exists.intro _ (Exists.intro _ (And.intro hb2 (And.intro (Or.inr rfl) (And.intro (by rw [es]; exact vp_in_nI (by omega) (by decide)) ?_)))))
              rw [es, nI_clamp (by omega), hg (k - 1) (by omega)]
              cases hb1 : bsB wl br (fun k => thv tr on up (of k) ^^ nt k) (k - 1)
              · refine And.intro (fun _ => ?_) (fun c => absurd (tN0 rfl) c)
                exact fin false (by rw [prev, hc1, hb1]; rfl)
              · refine And.intro (fun c => absurd c (tN1 rfl)) (fun _ => ?_)
                exact fin true (by rw [prev, hc1, hb1]; rfl)
        cases hck : cr k
        · refine And.intro (fun _ => ?_) (fun c => absurd (tN0 rfl) c)
          exact t137 (by rw [hck]; rfl)
        · refine And.intro (fun c => absurd c (tN1 rfl)) (fun _ => ?_)
          have hk1 := hcr k hck
          refine Exists.intro _ (And.intro ho2 (Exists.intro _ (And.intro f63 ?_)))
          refine Exists.intro 3 (Exists.intro _ (Exists.intro _ (And.intro hb2 (And.intro (Or.inr rfl) (And.intro (by rw [← nI_succ]; exact vp_in_nI (by omega) (by decide)) ?_)))))
          rw [← nI_succ, nI_clamp (by omega), hg (k + 1) hk1]
          cases hb1 : bsB wl br (fun k => thv tr on up (of k) ^^ nt k) (k + 1)
          · refine And.intro (fun c => absurd (tN0 rfl) c) (fun _ => ?_)
            exact t137 (by rw [hb1, Bool.and_false])
          · refine And.intro (fun _ => ?_) (fun c => absurd c (tN1 rfl))
            exact fin true (by rw [prev, hck, hb1]; rfl)
      · refine And.intro (fun _ => ?_) (fun c => absurd c (tN1 rfl))
        exact fin true (by unfold clB; rw [hbk]; rfl)
  have store1 : ∀ (k : Nat) (g : Nat → Int32) (x : Int32) (v : Bool), k < many → v = bsB wl br (fun k => thv tr on up (of k) ^^ nt k) k → (∀ i, i < k → g i = nI (bsB wl br (fun k => thv tr on up (of k) ^^ nt k) i).toNat) → (∀ g3 : Nat → Int32, (∀ i, i < k + 1 → g3 i = nI (bsB wl br (fun k => thv tr on up (of k) ^^ nt k) i).toNat) → Go l G 12 s_X12_closes 0 0 Post 11 [(5, .int (nI (k + 1))), (4, .int (nI many)), (0, .ref o), (1, .int (nI d)), (2, .int (nI on)), (3, .int (nI up))] [] (uph h q63 (.inl (3, 40, .inl g3))) nx 0 0) → Go l G 12 s_X12_closes 0 0 Post 82 [(6, .int x), (5, .int (nI k)), (4, .int (nI many)), (0, .ref o), (1, .int (nI d)), (2, .int (nI on)), (3, .int (nI up))] [.int (nI v.toNat), .int (nI k), .ref q63] (uph h q63 (.inl (3, 40, .inl g))) nx 0 0 := by
    intro k g x v hk hv hg hK
    refine Go.of hX.2 ck_X12_closes [11] 20 ?_
    refine Exists.intro 3 (Exists.intro _ (Exists.intro _ (And.intro uph_eq (And.intro (Or.inr rfl) (And.intro (vp_in_nI (by omega) (by decide)) ?_)))))
    rw [uph_uph, nI_clamp (by omega), nar_b]
    refine go_loc (lv' := [(5, .int (nI k + 1)), (4, .int (nI many)), (0, .ref o), (1, .int (nI d)), (2, .int (nI on)), (3, .int (nI up))]) ⟨rfl, rfl, rfl, rfl, rfl, rfl, trivial⟩ ?_
    rw [← nI_succ]
    refine hK _ (fun i hi => ?_)
    by_cases e : i = k
    · rw [e, hv]; exact pk_us
    · rw [pk_un e]; exact hg i (by omega)
  have loop1 : ∀ (j k : Nat) (g : Nat → Int32), k + j = many → (∀ i, i < k → g i = nI (bsB wl br (fun k => thv tr on up (of k) ^^ nt k) i).toNat) → Go l G 12 s_X12_closes 0 0 Post 11 [(5, .int (nI k)), (4, .int (nI many)), (0, .ref o), (1, .int (nI d)), (2, .int (nI on)), (3, .int (nI up))] [] (uph h q63 (.inl (3, 40, .inl g))) nx 0 0 := by
    intro j
    induction j with
    | zero =>
      intro k g hk hg
      refine Go.of hX.2 ck_X12_closes [92] 20 ?_
      refine And.intro (fun _ => ?_) (fun c => absurd (nI_le (by omega) (by omega)) c)
      have hc0 : (uph h q63 (.inl (3, 40, .inl g))) q56 = some (.inl (3, 40, .inl gC)) := by rw [uph_ne n56]; exact h56
      have hl := loop2 many 0 g gC (Nat.zero_add _) (fun i hi => hg i (by omega)) (fun i hi => absurd hi (Nat.not_lt_zero i))
      rw [uph_self hc0] at hl
      exact go_loc (lv' := [(5, .int (nI 0)), (4, .int (nI many)), (0, .ref o), (1, .int (nI d)), (2, .int (nI on)), (3, .int (nI up))]) ⟨rfl, rfl, rfl, rfl, rfl, rfl, trivial⟩ hl
    | succ j ih =>
      intro k g hk hg
      have hkm : k < many := by omega
      obtain ⟨e1, e2, e3⟩ := eo k hkm
      have hs : ∀ (x : Int32) (v : Bool), v = bsB wl br (fun k => thv tr on up (of k) ^^ nt k) k → Go l G 12 s_X12_closes 0 0 Post 82 [(6, .int x), (5, .int (nI k)), (4, .int (nI many)), (0, .ref o), (1, .int (nI d)), (2, .int (nI on)), (3, .int (nI up))] [.int (nI v.toNat), .int (nI k), .ref q63] (uph h q63 (.inl (3, 40, .inl g))) nx 0 0 := fun x v hv => store1 k g x v hkm hv hg (fun g3 h3 => ih (k + 1) g3 (by omega) h3)
      have ei : (40 : Int32) * nI d + nI k = nI (40 * d + k) := by rw [show (40 : Int32) = nI 40 from rfl, nI_mul, nI_add]
      have ho1 : (uph h q63 (.inl (3, 40, .inl g))) o = some (.inr (12, fs)) := by rw [uph_ne n6]; exact ho
      have k58 : (uph h q63 (.inl (3, 40, .inl g))) q58 = some (.inl (3, 40, .inl gw)) := by rw [uph_ne n58]; exact h58
      have k59 : (uph h q63 (.inl (3, 40, .inl g))) q59 = some (.inl (3, 40, .inl gb)) := by rw [uph_ne n59]; exact h59
      have k34 : (uph h q63 (.inl (3, 40, .inl g))) q34 = some (.inl (0, 200, .inl go)) := by rw [uph_ne n34]; exact h34
      have k35 : (uph h q63 (.inl (3, 40, .inl g))) q35 = some (.inl (3, 200, .inl gn)) := by rw [uph_ne n35]; exact h35
      have k22 : (uph h q63 (.inl (3, 40, .inl g))) q22 = some (.inl (3, 25, .inl trk)) := by rw [uph_ne n22]; exact h22
      refine Go.of hX.2 ck_X12_closes [82] 120 ?_
      refine And.intro (fun c => absurd c (nI_ge hkm (by omega))) (fun _ => ?_)
      refine Exists.intro _ (And.intro ho1 (Exists.intro _ (And.intro f63 ?_)))
      refine Exists.intro _ (And.intro ho1 (Exists.intro _ (And.intro f58 ?_)))
      refine Exists.intro 3 (Exists.intro _ (Exists.intro _ (And.intro k58 (And.intro (Or.inr rfl) (And.intro (vp_in_nI (by omega) (by decide)) ?_)))))
      rw [nI_clamp (by omega), ew k (by omega)]
      cases hwk : wl k
      · refine And.intro (fun c => absurd (tN0 rfl) c) (fun _ => ?_)
        refine Exists.intro _ (And.intro ho1 (Exists.intro _ (And.intro f59 ?_)))
        refine Exists.intro 3 (Exists.intro _ (Exists.intro _ (And.intro k59 (And.intro (Or.inr rfl) (And.intro (vp_in_nI (by omega) (by decide)) ?_)))))
        rw [nI_clamp (by omega), eb k (by omega)]
        cases hbk : br k
        · refine And.intro (fun c => absurd (tN0 rfl) c) (fun _ => ?_)
          refine Exists.intro _ (And.intro ho1 (Exists.intro _ (And.intro f34 ?_)))
          refine Exists.intro _ (Exists.intro _ (And.intro k34 (And.intro (by rw [ei]; exact vp_in_nI (by omega) (by decide)) ?_)))
          rw [ei, nI_clamp (by omega), e1]
          refine Exists.intro _ (And.intro ho1 (Exists.intro _ (And.intro f35 ?_)))
          refine Exists.intro 3 (Exists.intro _ (Exists.intro _ (And.intro k35 (And.intro (Or.inr rfl) (And.intro (vp_in_nI (by omega) (by decide)) ?_)))))
          rw [nI_clamp (by omega), e3]
          refine Exists.intro _ (And.intro ho1 (Exists.intro 0 (Exists.intro 0 (And.intro (Nat.le_refl _) (And.intro (Nat.le_refl _) (c_isThing hX ho1 f22 k22 e2 hon hup hd (fun h5 => et _ h5) ?_))))))
          have hv : bsB wl br (fun k => thv tr on up (of k) ^^ nt k) k = (thv tr on up (of k) ^^ nt k) := by unfold bsB; rw [hwk, hbk]; rfl
          cases htk : (thv tr on up (of k) ^^ nt k)
          · refine And.intro (fun _ => ?_) (fun c => absurd (tN0 rfl) c)
            exact hs _ false (by rw [hv, htk])
          · refine And.intro (fun c => absurd c (tN1 rfl)) (fun _ => ?_)
            exact hs _ true (by rw [hv, htk])
        · refine And.intro (fun _ => ?_) (fun c => absurd c (tN1 rfl))
          exact hs _ false (by unfold bsB; rw [hwk, hbk]; rfl)
      · refine And.intro (fun _ => ?_) (fun c => absurd c (tN1 rfl))
        exact hs _ true (by unfold bsB; rw [hwk]; rfl)
  refine en_X12_closes hX [11] 40 rfl ?_
  refine Exists.intro _ (And.intro ho (Exists.intro _ (And.intro f32 ?_)))
  refine Exists.intro _ (Exists.intro _ (And.intro h32 (And.intro (vp_in_nI hd (by decide)) ?_)))
  rw [nI_clamp (by omega), hm]
  have hl := loop1 many 0 gB (Nat.zero_add _) (fun i hi => absurd hi (Nat.not_lt_zero i))
  rw [uph_self h63] at hl
  exact go_loc (lv' := [(5, .int (nI 0)), (4, .int (nI many)), (0, .ref o), (1, .int (nI d)), (2, .int (nI on)), (3, .int (nI up))]) ⟨rfl, rfl, rfl, rfl, rfl, rfl, trivial⟩ hl
