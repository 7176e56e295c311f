/-! x's settle -/
theorem dd : ∀ D, D < 65 → ¬ (64 : Int32) ≤ nI D - 1 ∧ nI D - 1 + 1 = nI D ∧ (D < 64 → ¬ (64 : Int32) ≤ nI D - 1 + 1) ∧ (0 < D → 0 ≤ nI D - 1) ∧ (D = 0 → ¬ 0 ≤ nI D - 1) := by decide +kernel
theorem wsm_ge (lf : Nat → Nat) : ∀ D, D ≤ wsm lf D
  | 0 => Nat.le_refl 0
  | D + 1 => by
    have := wsm_ge lf D
    unfold wsm
    omega
theorem cntC_pos {c : Int32} {B v j : Nat} {g : Nat → Int32} (hg : g (B + v) = c) (hv : v < j) : 1 ≤ cntC c B g j := by
  have h : ∀ x : Int32, x ≠ c → 1 ≤ cntC c B g j := fun x hx => by
    have := (cntC_off hx hg j).2 hv
    omega
  by_cases e : c = 0
  · exact h 1 (by rw [e]; decide)
  · exact h 0 (fun z => e z.symm)
def epI (B : Nat) : Option Nat → Int32
  | some v => nI (B + v)
  | none => -1
set_option maxHeartbeats 8000000 in
theorem c_settle {l : Launch} {G : GG} {h : AH} {nxA : Nat} {Post : Option Value → AH → Nat → Prop} {u qs qw ql qe on up0 st su nR : Nat} {nx shv : Nat → Nat} {m0 gw0 gl0 ge0 : Nat → Int32} {b : Int32} {f3 : List Value} (hX : XC G ∧ TX l G) (hu : h u = some (.inr (3, f3))) (u9 : f3[9]? = some (.int (nI st))) (u10 : f3[10]? = some (.int (nI su))) (u12 : f3[12]? = some (.ref qs)) (u13 : f3[13]? = some (.ref qw)) (u14 : f3[14]? = some (.ref ql)) (u15 : f3[15]? = some (.ref qe)) (hq : DQ qs qw ql qe) (nu : u ≠ qs ∧ u ≠ qw ∧ u ≠ ql ∧ u ≠ qe) (S0 : SH h h qs qw ql qe m0 gw0 gl0 ge0) (hon : on < 32) (hR6 : nR ≤ 6) (hnx : ∀ v, nx v < 2 ^ nR) (hup0 : up0 < 2 ^ nR) (hca : ∀ (h1 : AH) (v : Nat) {Q : Option Value → AH → Nat → Prop}, (∀ a, a ≠ qs → a ≠ qw → a ≠ ql → a ≠ qe → h1 a = h a) → v < 2 ^ nR → Q (some (.int (nI (shv v)))) h1 nxA → Runs l G i_X3_circuitsAt 0 0 [.ref u, .int (nI (64 * on + v))] h1 nxA Q) (hmv : ∀ (h1 : AH) (v : Nat) {Q : Option Value → AH → Nat → Prop}, (∀ a, a ≠ qs → a ≠ qw → a ≠ ql → a ≠ qe → h1 a = h a) → v < 2 ^ nR → Q (some (.int (nI (nx v)))) h1 nxA → Runs l G i_X3_movable 0 0 [.ref u, .int (nI (64 * on + v)), .int (nI (shv v))] h1 nxA Q) (hmem : ∀ v, v < 2 ^ nR → MIv nx nR v (m0 (64 * on + v))) (hword : (((nI on &&& 31) <<< ((6 : Int32) &&& 31)) ||| (((b &&& (nI st ^^^ (-1))) ||| nI su) &&& 63)) = nI (64 * on + up0)) (hP : ∀ (h1 : AH) (m gw gl ge : Nat → Int32), SH h h1 qs qw ql qe m gw gl ge → (∀ v, v < 2 ^ nR → MIv nx nR v (m (64 * on + v))) → (∀ w, w < 64 * on ∨ 64 * on + 2 ^ nR ≤ w → m w = m0 w) → Post (some (.int (stF nx nR up0))) h1 nxA) : Runs l G i_X3_settle 0 0 [.ref u, .int (nI on), .int b] h nxA Post := by
  have hp : 2 ^ nR ≤ 64 := Nat.pow_le_pow_right (n := 2) (by decide) hR6
  have hblk : 64 * on + 2 ^ nR ≤ 2048 := by omega
  have exit : ∀ (n : Nat) (h1 : AH) (m gw gl ge : Nat → Int32) (wy lf : Nat → Nat) (en : Nat → Int32), JI nx nR (64 * on) up0 m0 m 0 wy lf en none → SH h h1 qs qw ql qe m gw gl ge → n ≤ 600 → Go l G 3 s_X3_settle 0 0 Post 41 [(6, .int (nI n)), (5, .int (-1)), (4, .int (nI 0 - 1)), (3, .int (nI (64 * on + up0))), (0, .ref u)] [] h1 nxA 0 0 := by
    intro n h1 m gw gl ge wy lf en J S hn
    have hu1 : h1 u = some (.inr (3, f3)) := (S.1 u nu.1 nu.2.1 nu.2.2.1 nu.2.2.2).trans hu
    refine Go.of hX.2 ck_X3_settle [] 60 ?_
    refine And.intro (fun cz => absurd cz (nI_ge (b := 1000) (by omega) (by decide))) (fun _ => ?_)
    refine And.intro (fun cz => by first | exact absurd cz (by decide) | exact absurd (by decide) cz) (fun _ => ?_)
    refine And.intro (fun cz => by first | exact absurd cz (by decide) | exact absurd (by decide) cz) (fun _ => ?_)
    refine And.intro (fun _ => ?_) (fun cz => by first | exact absurd cz (by decide) | exact absurd (by decide) cz)
    refine Exists.intro _ (And.intro hu1 (Exists.intro _ (And.intro u12 ?_)))
    refine Exists.intro 2 (Exists.intro _ (Exists.intro _ (And.intro S.2.1 (And.intro (Or.inl rfl) (And.intro (vp_in_nI (by omega) (by decide)) ?_)))))
    rw [nI_clamp (by omega)]
    have hall : ∀ v, v < 2 ^ nR → MIv nx nR v (m (64 * on + v)) := fun v hv => J.2.2.2.2.1 v hv (fun i hi => absurd hi (Nat.not_lt_zero i))
    have hq2 := hP h1 m gw gl ge S hall J.2.2.2.2.2.1
    have hv : m (64 * on + up0) = stF nx nR up0 := by
      rcases hall up0 hup0 with z | ⟨s, hs, z, hst⟩ | ⟨z, hno⟩
      · exact absurd z (J.2.2.2.2.2.2.2.1 rfl rfl)
      · rw [z, stF_some hnx hst]
      · rw [z, stF_none hno]
    rw [hv]
    exact And.intro rfl hq2
  have loop : ∀ (f n D : Nat) (wy lf : Nat → Nat) (en : Nat → Int32) (ep : Option Nat) (h1 : AH) (m gw gl ge : Nat → Int32), JI nx nR (64 * on) up0 m0 m D wy lf en ep → SH h h1 qs qw ql qe m gw gl ge → (∀ i, i < D → gw i = nI (64 * on + wy i) ∧ gl i = nI (lf i) ∧ ge i = en i) → 8 * cntC (-1) (64 * on) m (2 ^ nR) + wsm lf D ≤ f → n + f ≤ 600 → Go l G 3 s_X3_settle 0 0 Post 41 [(6, .int (nI n)), (5, .int (epI (64 * on) ep)), (4, .int (nI D - 1)), (3, .int (nI (64 * on + up0))), (0, .ref u)] [] h1 nxA 0 0 := by
    intro f
    induction f with
    | zero =>
      intro n D wy lf en ep h1 m gw gl ge J S hr hf hn
      have hD0 : D = 0 := by have := wsm_ge lf D; omega
      subst hD0
      cases ep with
      | some v => obtain ⟨v1, v2, _⟩ := J.2.2.2.1 v rfl; have := cntC_pos v2 v1; omega
      | none => exact exit n h1 m gw gl ge wy lf en J S (by omega)
    | succ f ih =>
      intro n D wy lf en ep h1 m gw gl ge J S hr hf hn
      have hu1 : h1 u = some (.inr (3, f3)) := (S.1 u nu.1 nu.2.1 nu.2.2.1 nu.2.2.2).trans hu
      have hn6 : ¬ (1000 : Int32) ≤ nI n := nI_ge (b := 1000) (by omega) (by decide)
      cases ep with
      | some v =>
        obtain ⟨v1, v2, _⟩ := J.2.2.2.1 v rfl
        have hc1 := cntC_pos v2 v1
        have hD : D < 64 := by have := J.2.2.2.2.2.2.2.2; omega
        obtain ⟨d1, d2, d3, d4, d5⟩ := dd D (by omega)
        have J2 := JI.enter hnx J
        have hcn := (cntC_off (x := -3) (by decide) v2 (2 ^ nR)).2 v1
        have hpc := pcN_le (nx v) 6
        have s66 : Go l G 3 s_X3_settle 0 0 Post 66 [(6, .int (nI n)), (5, .int (nI (64 * on + v))), (4, .int (nI D - 1)), (3, .int (nI (64 * on + up0))), (0, .ref u)] [] h1 nxA 0 0 := by
          refine Go.of hX.2 ck_X3_settle [41] 80 ?_
          refine And.intro (fun cz => absurd cz (nI_pos (by omega))) (fun _ => ?_)
          refine And.intro (fun cz => absurd cz (d3 hD)) (fun _ => ?_)
          refine Exists.intro _ (And.intro hu1 (Exists.intro 0 (Exists.intro 0 (And.intro (Nat.le_refl _) (And.intro (Nat.le_refl _) (hca h1 v S.1 v1 ?_))))))
          refine Exists.intro _ (And.intro hu1 (Exists.intro 0 (Exists.intro 0 (And.intro (Nat.le_refl _) (And.intro (Nat.le_refl _) (hmv h1 v S.1 v1 ?_))))))
          refine Exists.intro _ (And.intro hu1 (Exists.intro 0 (Exists.intro 0 (And.intro (Nat.le_refl _) (And.intro (Nat.le_refl _) ?_)))))
          rw [d2]
          refine c_enter (h0 := h) hX hu1 u12 u13 u14 u15 hq nu S hD (by omega) (Nat.lt_of_lt_of_le (hnx v) (by omega)) (fun h2 S2 => ?_)
          refine go_loc (lv' := [(6, .int (nI n + 1)), (5, .int (-1)), (4, .int (nI D)), (3, .int (nI (64 * on + up0))), (0, .ref u)]) ⟨rfl, rfl, rfl, rfl, rfl, trivial⟩ ?_
          rw [show (64 * on + v) % 64 = v from by omega] at S2
          have hg := ih (n + 1) (D + 1) _ _ _ none h2 _ _ _ _ J2 S2 (fun i hi => ?_) ?_ (by omega)
          · rw [nI_pred, nI_succ] at hg
            exact hg
          · by_cases e : i = D
            · subst e
              rw [upN_s, upN_s]
              exact ⟨pk_us, pk_us, by rw [show upd ge i _ i = _ from pk_us]; exact pk_us.symm⟩
            · obtain ⟨r1, r2, r3⟩ := hr i (by omega)
              rw [upN_n e, upN_n e]
              exact ⟨(pk_un e).trans r1, (pk_un e).trans r2, (pk_un e).trans (r3.trans (pk_un e).symm)⟩
          · rw [wsm_top]
            omega
        refine Go.of hX.2 ck_X3_settle [66] 40 ?_
        refine And.intro (fun cz => absurd cz hn6) (fun _ => ?_)
        refine And.intro (fun cz => absurd cz d1) (fun _ => ?_)
        by_cases hD0 : D = 0
        · refine And.intro (fun cz => absurd cz (d5 hD0)) (fun _ => ?_)
          refine And.intro (fun cz => absurd cz (nI_pos (by omega))) (fun _ => ?_)
          exact go_loc (lv' := [(6, .int (nI n)), (5, .int (nI (64 * on + v))), (4, .int (nI D - 1)), (3, .int (nI (64 * on + up0))), (0, .ref u)]) ⟨rfl, rfl, rfl, rfl, rfl, trivial⟩ s66
        · refine And.intro (fun _ => ?_) (fun cz => absurd (d4 (by omega)) cz)
          exact go_loc (lv' := [(6, .int (nI n)), (5, .int (nI (64 * on + v))), (4, .int (nI D - 1)), (3, .int (nI (64 * on + up0))), (0, .ref u)]) ⟨rfl, rfl, rfl, rfl, rfl, trivial⟩ s66
      | none =>
        cases D with
        | zero => exact exit n h1 m gw gl ge wy lf en J S (by omega)
        | succ d =>
          have hd : d < 64 := by have := J.2.2.2.2.2.2.2.2; omega
          obtain ⟨c1, c2, c3, c4, c5⟩ := J.1 d (by omega)
          obtain ⟨r1, r2, r3⟩ := hr d (by omega)
          have hl64 : lf d < 64 := Nat.lt_of_lt_of_le c3 hp
          show Go l G 3 s_X3_settle 0 0 Post 41 [(6, .int (nI n)), (5, .int (-1)), (4, .int (nI (d + 1) - 1)), (3, .int (nI (64 * on + up0))), (0, .ref u)] [] h1 nxA 0 0
          rw [nI_pred]
          refine Go.of hX.2 ck_X3_settle [41, 170] 120 ?_
          refine And.intro (fun cz => absurd cz hn6) (fun _ => ?_)
          refine And.intro (fun cz => absurd cz (nI_ge (b := 64) hd (by decide))) (fun _ => ?_)
          refine And.intro (fun _ => ?_) (fun cz => absurd (nI_pos' (by omega)) cz)
          refine And.intro (fun _ => ?_) (fun cz => by first | exact absurd cz (by decide) | exact absurd (by decide) cz)
          refine And.intro (fun cz => absurd cz (nI_pos (by omega))) (fun _ => ?_)
          refine Exists.intro _ (And.intro hu1 (Exists.intro _ (And.intro u14 ?_)))
          refine Exists.intro _ (Exists.intro _ (And.intro S.2.2.2.1 (And.intro (vp_in_nI hd (by decide)) ?_)))
          rw [nI_clamp (by omega), r2]
          by_cases hl : lf d = 0
          · refine And.intro (fun cz => absurd (by rw [hl]; rfl) cz) (fun _ => ?_)
            have ht := JI.top hnx J hl
            have he3 : (en d).toInt8.toInt32 = en d ∧ vp_nar (TY 2) (en d) = en d ∧ en d ≠ -1 := by
              rcases ht with ⟨s, hs, e1, _⟩ | ⟨e1, _⟩
              · rw [e1]; exact ⟨(i2b_s s (by omega)).1, (i2b_s s (by omega)).2, (nI_n2 (by omega)).2.2⟩
              · rw [e1]; decide
            refine Exists.intro _ (And.intro hu1 (Exists.intro _ (And.intro u12 ?_)))
            refine Exists.intro _ (And.intro hu1 (Exists.intro _ (And.intro u13 ?_)))
            refine Exists.intro _ (Exists.intro _ (And.intro S.2.2.1 (And.intro (vp_in_nI hd (by decide)) ?_)))
            rw [nI_clamp (by omega), r1]
            refine Exists.intro _ (And.intro hu1 (Exists.intro _ (And.intro u15 ?_)))
            refine Exists.intro _ (Exists.intro _ (And.intro S.2.2.2.2 (And.intro (vp_in_nI hd (by decide)) ?_)))
            rw [nI_clamp (by omega), r3]
            refine Exists.intro 2 (Exists.intro _ (Exists.intro _ (And.intro S.2.1 (And.intro (Or.inl rfl) (And.intro (vp_in_nI (by omega) (by decide)) ?_)))))
            rw [nI_clamp (by omega), he3.1, he3.2.1]
            have S2 := S.s (g := upd m (64 * on + wy d) (en d)) hq
            have hu2 : uph h1 qs (.inl (2, 2048, .inl (upd m (64 * on + wy d) (en d)))) u = some (.inr (3, f3)) := (S2.1 u nu.1 nu.2.1 nu.2.2.1 nu.2.2.2).trans hu
            have hcs := cntC_same (c := -1) (B := 64 * on) (u := wy d) (g := m) he3.2.2 (by rw [c2]; decide) (2 ^ nR)
            cases d with
            | zero =>
              refine And.intro (fun _ => ?_) (fun cz => by first | exact absurd cz (by decide) | exact absurd (by decide) cz)
              refine go_loc (lv' := [(6, .int (nI n + 1)), (5, .int (-1)), (4, .int (nI 0 - 1)), (3, .int (nI (64 * on + up0))), (0, .ref u)]) ⟨rfl, rfl, rfl, rfl, rfl, trivial⟩ ?_
              rw [← nI_succ]
              refine ih (n + 1) 0 wy lf en none _ _ gw gl ge (JI.leave0 hnx hR6 J hl) S2 (fun i hi => absurd hi (Nat.not_lt_zero i)) ?_ (by omega)
              have : wsm lf (0 + 1) = pcN (lf 0) 6 + 1 := by show 0 + (pcN (lf 0) 6 + 1) = _; omega
              show 8 * cntC (-1) (64 * on) (upd m (64 * on + wy 0) (en 0)) (2 ^ nR) + 0 ≤ f
              omega
            | succ e =>
              have em : nI (e + 1) + -1 = nI e := by rw [← Int32.sub_eq_add_neg]; exact nI_pred e
              refine And.intro (fun cz => absurd (em ▸ cz) (nI_pos (by omega))) (fun _ => ?_)
              refine Exists.intro _ (And.intro hu2 (Exists.intro _ (And.intro u15 ?_)))
              refine Exists.intro _ (Exists.intro _ (And.intro S2.2.2.2.2 (And.intro (by rw [em, ← nI_succ]; exact vp_in_nI hd (by decide)) ?_)))
              rw [em, ← nI_succ, nI_clamp (by omega), r3]
              obtain ⟨q1, q2, q3⟩ := hr e (by omega)
              refine Exists.intro _ (And.intro hu2 (Exists.intro 0 (Exists.intro 0 (And.intro (Nat.le_refl _) (And.intro (Nat.le_refl _) (c_join (h0 := h) hX hu2 u12 u13 u14 u15 hq nu S2 (show e < 64 by omega) (fun h3 gl1 ge1 S3 k1 k2 k3 => ?_)))))))
              refine go_loc (lv' := [(6, .int (nI n + 1)), (5, .int (-1)), (4, .int (nI e)), (3, .int (nI (64 * on + up0))), (0, .ref u)]) ⟨rfl, rfl, rfl, rfl, rfl, trivial⟩ ?_
              have hg := ih (n + 1) (e + 1) wy _ _ none h3 _ gw gl1 ge1 (JI.leave hnx hR6 J hl) S3 (fun i hi => ?_) ?_ (by omega)
              · rw [nI_pred, nI_succ] at hg
                exact hg
              · obtain ⟨p1, p2, p3⟩ := hr i (by omega)
                by_cases e2 : i = e
                · subst e2
                  rw [upN_s]
                  refine ⟨p1, (k1 _ p2).trans (by rw [q3]), k2.trans ?_⟩
                  rw [q3]
                  exact pk_us.symm
                · rw [upN_n e2]
                  exact ⟨p1, (k3 i e2).1.trans p2, (k3 i e2).2.trans (p3.trans (pk_un e2).symm)⟩
              · rw [wsm_top]
                have hj := pcN_jL (e := en e) (f := en (e + 1)) (l := lf e)
                have : wsm lf (e + 1 + 1) = wsm lf e + (pcN (lf e) 6 + 1) + (pcN (lf (e + 1)) 6 + 1) := rfl
                omega
          · refine And.intro (fun _ => ?_) (fun cz => absurd cz (nI_ne0 (by omega) (by omega)))
            refine go_loc (lv' := [(6, .int (nI n)), (5, .int (-1)), (4, .int (nI d)), (3, .int (nI (64 * on + up0))), (0, .ref u)]) ⟨rfl, rfl, rfl, rfl, rfl, trivial⟩ ?_
            obtain ⟨r, hr6, hrb, hrl⟩ := low_bit (lf d) hl64 hl
            have hrR : r < nR := tb_r c3 hrb
            have hx2 : wy d ^^^ 2 ^ r < 2 ^ nR := Nat.xor_lt_two_pow c1 (Nat.pow_lt_pow_right (by decide) hrR)
            have hp2 : 2 ^ r < 64 := Nat.pow_lt_pow_right (n := 6) (by decide) hr6
            have ex : nI (64 * on + wy d) ^^^ nI (2 ^ r) = nI (64 * on + (wy d ^^^ 2 ^ r)) := by rw [nx_xor, xb_blk (by omega) hp2]
            refine Go.of hX.2 ck_X3_settle [41] 120 ?_
            refine And.intro (fun cz => absurd cz (nI_pos (by omega))) (fun _ => ?_)
            refine Exists.intro _ (And.intro hu1 (Exists.intro _ (And.intro u14 ?_)))
            refine Exists.intro _ (Exists.intro _ (And.intro S.2.2.2.1 (And.intro (vp_in_nI hd (by decide)) ?_)))
            rw [nI_clamp (by omega), r2]
            refine Exists.intro _ (And.intro hu1 (Exists.intro _ (And.intro u14 ?_)))
            refine Exists.intro _ (Exists.intro _ (And.intro S.2.2.2.1 (And.intro (vp_in_nI hd (by decide)) ?_)))
            rw [nI_clamp (by omega), r2]
            refine Exists.intro _ (And.intro hu1 (Exists.intro _ (And.intro u14 ?_)))
            rw [hrl]
            refine Exists.intro _ (Exists.intro _ (And.intro S.2.2.2.1 (And.intro (vp_in_nI hd (by decide)) ?_)))
            rw [nI_clamp (by omega), r2]
            refine Exists.intro _ (Exists.intro _ (And.intro S.2.2.2.1 (And.intro (vp_in_nI hd (by decide)) ?_)))
            rw [nI_clamp (by omega), nx_xor]
            have S2 := S.l (g := upd gl d (nI (lf d ^^^ 2 ^ r))) hq
            have hu2 : uph h1 ql (.inl (0, 64, .inl (upd gl d (nI (lf d ^^^ 2 ^ r))))) u = some (.inr (3, f3)) := (S2.1 u nu.1 nu.2.1 nu.2.2.1 nu.2.2.2).trans hu
            refine Exists.intro _ (And.intro hu2 (Exists.intro _ (And.intro u12 ?_)))
            refine Exists.intro _ (And.intro hu2 (Exists.intro _ (And.intro u13 ?_)))
            refine Exists.intro _ (Exists.intro _ (And.intro S2.2.2.1 (And.intro (vp_in_nI hd (by decide)) ?_)))
            rw [nI_clamp (by omega), r1]
            refine Exists.intro 2 (Exists.intro _ (Exists.intro _ (And.intro S2.2.1 (And.intro (Or.inl rfl) (And.intro (by rw [ex]; exact vp_in_nI (by omega) (by decide)) ?_)))))
            rw [ex, nI_clamp (by omega)]
            have hpx := (pcN_x hrb 6).2 hr6
            have hws : wsm lf (d + 1) = wsm lf d + (pcN (lf d) 6 + 1) := rfl
            by_cases hf1 : m (64 * on + (wy d ^^^ 2 ^ r)) = -1
            · refine And.intro (fun _ => ?_) (fun cz => absurd hf1 cz)
              refine Exists.intro _ (And.intro hu2 (Exists.intro _ (And.intro u13 ?_)))
              refine Exists.intro _ (Exists.intro _ (And.intro S2.2.2.1 (And.intro (vp_in_nI hd (by decide)) ?_)))
              rw [nI_clamp (by omega), r1]
              refine go_loc (lv' := [(6, .int (nI n + 1)), (5, .int (nI (64 * on + wy d) ^^^ nI (2 ^ r))), (4, .int (nI d)), (3, .int (nI (64 * on + up0))), (0, .ref u)]) ⟨rfl, rfl, rfl, rfl, rfl, trivial⟩ ?_
              rw [ex]
              have hg := ih (n + 1) (d + 1) wy _ en (some (wy d ^^^ 2 ^ r)) _ m gw _ ge (JI.take J hrb hf1) S2 (fun i hi => ?_) ?_ (by omega)
              · rw [nI_pred, nI_succ] at hg
                exact hg
              · obtain ⟨p1, p2, p3⟩ := hr i hi
                by_cases e2 : i = d
                · subst e2
                  rw [upN_s]
                  exact ⟨p1, pk_us, p3⟩
                · rw [upN_n e2]
                  exact ⟨p1, (pk_un e2).trans p2, p3⟩
              · rw [wsm_top]
                omega
            · refine And.intro (fun cz => absurd cz hf1) (fun _ => ?_)
              refine Exists.intro _ (And.intro hu2 (Exists.intro 0 (Exists.intro 0 (And.intro (Nat.le_refl _) (And.intro (Nat.le_refl _) (c_join (h0 := h) hX hu2 u12 u13 u14 u15 hq nu S2 hd (fun h3 gl1 ge1 S3 k1 k2 k3 => ?_)))))))
              refine go_loc (lv' := [(6, .int (nI n + 1)), (5, .int (-1)), (4, .int (nI d)), (3, .int (nI (64 * on + up0))), (0, .ref u)]) ⟨rfl, rfl, rfl, rfl, rfl, trivial⟩ ?_
              have hg := ih (n + 1) (d + 1) wy _ _ none h3 m gw gl1 ge1 (JI.found hnx hR6 J hrb hf1) S3 (fun i hi => ?_) ?_ (by omega)
              · rw [nI_pred, nI_succ] at hg
                exact hg
              · obtain ⟨p1, p2, p3⟩ := hr i hi
                by_cases e2 : i = d
                · subst e2
                  rw [upN_s]
                  refine ⟨p1, (k1 _ pk_us).trans (by rw [r3]), k2.trans ?_⟩
                  rw [r3]
                  exact pk_us.symm
                · rw [upN_n e2]
                  exact ⟨p1, (k3 i e2).1.trans ((pk_un e2).trans p2), (k3 i e2).2.trans (p3.trans (pk_un e2).symm)⟩
              · rw [wsm_top]
                have hj := pcN_jL (e := en d) (f := m (64 * on + (wy d ^^^ 2 ^ r))) (l := lf d ^^^ 2 ^ r)
                omega
  refine en_X3_settle hX [41] 80 rfl ?_
  refine Exists.intro _ (And.intro hu (Exists.intro _ (And.intro u9 ?_)))
  refine Exists.intro _ (And.intro hu (Exists.intro _ (And.intro u10 ?_)))
  refine Exists.intro 0 (Exists.intro 0 (And.intro (Nat.le_refl _) (And.intro (Nat.le_refl _) (c_wordOf hX ?_))))
  rw [hword]
  refine Exists.intro _ (And.intro hu (Exists.intro _ (And.intro u12 ?_)))
  refine Exists.intro 2 (Exists.intro _ (Exists.intro _ (And.intro S0.2.1 (And.intro (Or.inl rfl) (And.intro (vp_in_nI (by omega) (by decide)) ?_)))))
  rw [nI_clamp (by omega)]
  have hcl := cntC_le (-1) (64 * on) m0 (2 ^ nR)
  have J0 : ∀ ep : Option Nat, (∀ v, ep = some v → v = up0 ∧ m0 (64 * on + up0) = -1) → (ep = none → m0 (64 * on + up0) ≠ -1) → JI nx nR (64 * on) up0 m0 m0 0 (fun _ => 0) (fun _ => 0) (fun _ => 0) ep := fun ep q1 q2 => ⟨fun i hi => absurd hi (Nat.not_lt_zero i), fun i j _ hj => absurd hj (Nat.not_lt_zero j), fun i hi => absurd hi (Nat.not_lt_zero _), fun v hv => by obtain ⟨z1, z2⟩ := q1 v hv; subst z1; exact ⟨hup0, z2, fun _ => rfl, fun i hi => absurd hi (Nat.succ_ne_zero i)⟩, fun v hv _ => hmem v hv, fun _ _ => rfl, fun z => absurd z (Nat.lt_irrefl 0), fun _ z => q2 z, by omega⟩
  by_cases hm : m0 (64 * on + up0) = -1
  · refine And.intro (fun cz => absurd hm cz) (fun _ => ?_)
    exact go_loc (lv' := [(6, .int (nI 0)), (5, .int (nI (64 * on + up0))), (4, .int (nI 0 - 1)), (3, .int (nI (64 * on + up0))), (0, .ref u)]) ⟨rfl, rfl, rfl, rfl, rfl, trivial⟩ (loop 512 0 0 _ _ _ (some up0) h m0 gw0 gl0 ge0 (J0 (some up0) (fun v hv => ⟨(Option.some.inj hv).symm, hm⟩) (fun z => by cases z)) S0 (fun i hi => absurd hi (Nat.not_lt_zero i)) (by show 8 * cntC (-1) (64 * on) m0 (2 ^ nR) + 0 ≤ 512; omega) (by decide))
  · refine And.intro (fun _ => ?_) (fun cz => absurd cz hm)
    exact go_loc (lv' := [(6, .int (nI 0)), (5, .int (-1)), (4, .int (nI 0 - 1)), (3, .int (nI (64 * on + up0))), (0, .ref u)]) ⟨rfl, rfl, rfl, rfl, rfl, trivial⟩ (loop 512 0 0 _ _ _ none h m0 gw0 gl0 ge0 (J0 none (fun v hv => by cases hv) (fun _ => hm)) S0 (fun i hi => absurd hi (Nat.not_lt_zero i)) (by show 8 * cntC (-1) (64 * on) m0 (2 ^ nR) + 0 ≤ 512; omega) (by decide))
