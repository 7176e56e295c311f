/-! the model goes through all that is reached -/
def AR (val : Nat → Prop) (S : BS) (gF gr gf gb : Nat → Int32) : Prop :=
  (∀ j, j < S.1 → gr j = nI (S.2.1 j) ∧ S.2.1 j < 2048 ∧ val (S.2.1 j) ∧ (0 < j → gf j = nI (S.2.2.1 j).1 ∧ gb j = nI (S.2.2.1 j).2)) ∧ (0 < S.1 → gf 0 = -1 ∧ gb 0 = -1) ∧ (∀ y, y < 2048 → gF y = nI (memB S.2.1 y S.1).toNat) ∧ cntC 0 0 gF 2048 + S.1 = 2048
theorem AR.room {val : Nat → Prop} {S : BS} {gF gr gf gb : Nat → Int32} (h : AR val S gF gr gf gb) {y : Nat} (hy : y < 2048) (hm : memB S.2.1 y S.1 = false) : S.1 < 2048 := by
  have h0 : gF (0 + y) = 0 := by rw [Nat.zero_add, h.2.2.1 y hy, hm]; rfl
  have := cntC_pos h0 hy
  have := h.2.2.2
  omega
theorem AR.add {val : Nat → Prop} {S : BS} {gF gr gf gb : Nat → Int32} (h : AR val S gF gr gf gb) {y k i : Nat} (hy : y < 2048) (hv : val y) (hm : memB S.2.1 y S.1 = false) (h1 : 0 < S.1) : AR val (bAdd S y k i) (upd gF y 1) (upd gr S.1 (nI y)) (upd gf S.1 (nI k)) (upd gb S.1 (nI i)) := by
  have hb : bAdd S y k i = (S.1 + 1, upN S.2.1 S.1 y, upP S.2.2.1 S.1 (k, i), S.2.2.2) := if_neg (by rw [hm]; decide)
  rw [hb]
  have h0 : gF (0 + y) = 0 := by rw [Nat.zero_add, h.2.2.1 y hy, hm]; rfl
  have hc := (cntC_off (x := 1) (by decide) h0 2048).2 hy
  rw [Nat.zero_add] at hc
  obtain ⟨a1, a2, a3, a4⟩ := h
  refine ⟨fun j hj => ?_, fun _ => ?_, fun z hz => ?_, ?_⟩
  · by_cases e : j = S.1
    · subst e
      show upd gr S.1 (nI y) S.1 = nI (upN S.2.1 S.1 y S.1) ∧ upN S.2.1 S.1 y S.1 < 2048 ∧ val (upN S.2.1 S.1 y S.1) ∧ (0 < S.1 → upd gf S.1 (nI k) S.1 = nI (upP S.2.2.1 S.1 (k, i) S.1).1 ∧ upd gb S.1 (nI i) S.1 = nI (upP S.2.2.1 S.1 (k, i) S.1).2)
      rw [upN_s, show upP S.2.2.1 S.1 (k, i) S.1 = (k, i) from if_pos rfl]
      exact ⟨pk_us, hy, hv, fun _ => ⟨pk_us, pk_us⟩⟩
    · have hj' : j < S.1 + 1 := hj
      obtain ⟨b1, b2, b3, b4⟩ := a1 j (by omega)
      show upd gr S.1 (nI y) j = nI (upN S.2.1 S.1 y j) ∧ upN S.2.1 S.1 y j < 2048 ∧ val (upN S.2.1 S.1 y j) ∧ (0 < j → upd gf S.1 (nI k) j = nI (upP S.2.2.1 S.1 (k, i) j).1 ∧ upd gb S.1 (nI i) j = nI (upP S.2.2.1 S.1 (k, i) j).2)
      rw [upN_n e, show upP S.2.2.1 S.1 (k, i) j = S.2.2.1 j from if_neg e]
      exact ⟨(pk_un e).trans b1, b2, b3, fun h0 => ⟨(pk_un e).trans (b4 h0).1, (pk_un e).trans (b4 h0).2⟩⟩
  · exact ⟨(pk_un (by omega)).trans (a2 h1).1, (pk_un (by omega)).trans (a2 h1).2⟩
  · show upd gF y 1 z = nI (memB (upN S.2.1 S.1 y) z (S.1 + 1)).toNat
    rw [memB_up]
    by_cases e : y = z
    · subst e
      rw [decide_eq_true rfl, Bool.true_or]
      exact pk_us
    · rw [decide_eq_false e, Bool.false_or]
      exact (pk_un (Ne.symm e)).trans (a3 z hz)
  · show cntC 0 0 (upd gF y 1) 2048 + (S.1 + 1) = 2048
    omega
/-- the first place that is wrong, among so many -/
def wA (W : Nat → Bool) (row : Nat → Nat) : Nat → Int32
  | 0 => -1
  | k + 1 => if wA W row k = -1 ∧ W (row k) = true then nI k else wA W row k
theorem wA_cg {W : Nat → Bool} {row row2 : Nat → Nat} : ∀ {k : Nat}, (∀ j, j < k → row2 j = row j) → wA W row2 k = wA W row k
  | 0, _ => rfl
  | k + 1, h => by
    unfold wA
    rw [wA_cg (fun j hj => h j (by omega)), h k (Nat.lt_succ_self k)]
/-- where an act leads from a word -/
noncomputable def nbF (nR : Nat) (nxs : Nat → Nat → Nat) (x i : Nat) : Option Nat := @ite _ (stF (nxs (x / 64 ^^^ 2 ^ i)) nR (x % 64) = -2) (Classical.propDecidable _) none (some (64 * (x / 64 ^^^ 2 ^ i) + (stF (nxs (x / 64 ^^^ 2 ^ i)) nR (x % 64)).toNatClampNeg))
set_option maxHeartbeats 8000000 in
theorem reachI {l : Launch} {G : GG} {h : AH} {nx : Nat} {Post : Option Value → AH → Nat → Prop} {o hh d e nIn nR : Nat} {nxs : Nat → Nat → Nat} {gI gse : Nat → Int32} {fs : List Value} {k x : Nat} {S : BS} {wa : Int32} (hX : XC G ∧ TX l G) (hM : MA h o fs) (hd : d < 5) (hhh : hh < 2) (h7 : h (o + 1 + 7) = some (.inl (0, 5, .inl gI))) (eI : gI d = nI nIn) (hIn : nIn ≤ 5) (hR6 : nR ≤ 6) (h42 : h (o + 1 + 42) = some (.inl (0, 4096, .inl gse))) (hnx : ∀ on u, nxs on u < 2 ^ nR) (ese : ∀ on, on < 2 ^ nIn → ∀ v, v < 2 ^ nR → gse (2048 * hh + 64 * on + v) = stF (nxs on) nR v) (hx : x < 2048) (hx1 : x / 64 < 2 ^ nIn) (hx2 : x % 64 < 2 ^ nR) : ∀ (n i : Nat) (h1 : AH) (fs1 : List Value) (gF gr gf gb : Nat → Int32), i + n = nIn → RB o h fs h1 fs1 gF gr gf gb (bI (nbF nR nxs) k x i S).1 (bI (nbF nR nxs) k x i S).2.2.2 wa → AR (fun x => x / 64 < 2 ^ nIn ∧ x % 64 < 2 ^ nR) (bI (nbF nR nxs) k x i S) gF gr gf gb → 0 < S.1 → (∀ (h1 : AH) (fs1 : List Value) (gF gr gf gb : Nat → Int32), RB o h fs h1 fs1 gF gr gf gb (bI (nbF nR nxs) k x nIn S).1 (bI (nbF nR nxs) k x nIn S).2.2.2 wa → AR (fun x => x / 64 < 2 ^ nIn ∧ x % 64 < 2 ^ nR) (bI (nbF nR nxs) k x nIn S) gF gr gf gb → Go l G 12 s_X12_reaches 0 0 Post 213 [(5, .int (nI k)), (0, .ref o), (1, .int (nI hh)), (2, .int (nI d)), (3, .int (nI e))] [] h1 nx 0 0) → Go l G 12 s_X12_reaches 0 0 Post 118 [(7, .int (nI i)), (6, .int (nI x)), (5, .int (nI k)), (0, .ref o), (1, .int (nI hh)), (2, .int (nI d)), (3, .int (nI e))] [] h1 nx 0 0 := by
  have hp : 2 ^ nR ≤ 64 := Nat.pow_le_pow_right (n := 2) (by decide) hR6
  have hpi : 2 ^ nIn ≤ 32 := Nat.pow_le_pow_right (n := 2) (by decide) hIn
  intro n
  induction n with
  | zero =>
    intro i h1 fs1 gF gr gf gb hi hR hA hS K1
    have ei : i = nIn := by omega
    obtain ⟨hM1, a1, a2, a3, a4, a5, a6, a7, a8, a9, a10⟩ := id hR
    refine Go.of hX.2 ck_X12_reaches [213] 30 ?_
    refine Exists.intro _ (And.intro hM1.1 (Exists.intro _ (And.intro (hM1.2.2 7 (by decide)) ?_)))
    refine Exists.intro _ (Exists.intro _ (And.intro ((a10 _ (by omega) (by omega) (by omega) (by omega) (by omega) (by omega)).trans h7) (And.intro (vp_in_nI hd (by decide)) ?_)))
    rw [nI_clamp (by omega), eI]
    refine And.intro (fun _ => ?_) (fun cz => absurd (nI_le (by omega) (by omega)) cz)
    rw [ei] at hR hA
    exact go_loc (lv' := [(5, .int (nI k)), (0, .ref o), (1, .int (nI hh)), (2, .int (nI d)), (3, .int (nI e))]) ⟨rfl, rfl, rfl, rfl, rfl, trivial⟩ (K1 h1 fs1 gF gr gf gb hR hA)
  | succ n ih =>
    intro i h1 fs1 gF gr gf gb hi hR hA hS K1
    have hiI : i < nIn := by omega
    obtain ⟨hM1, a1, a2, a3, a4, a5, a6, a7, a8, a9, a10⟩ := id hR
    have hon : x / 64 ^^^ 2 ^ i < 2 ^ nIn := Nat.xor_lt_two_pow hx1 (Nat.pow_lt_pow_right (by decide) hiI)
    have e8 : nI x / 64 ^^^ ((1 : Int32) <<< (nI i &&& 31)) = nI (x / 64 ^^^ 2 ^ i) := by rw [show (64 : Int32) = nI 64 from rfl, pk_div (by omega) (by decide) (by decide), nx_pow (by omega), nx_xor]
    have e9 : nI x - nI x / 64 * 64 = nI (x % 64) := pk_rem (d := 64) (by omega) (by decide) (by decide)
    have ev := ese (x / 64 ^^^ 2 ^ i) hon (x % 64) hx2
    refine Go.of hX.2 ck_X12_reaches [118] 120 ?_
    refine Exists.intro _ (And.intro hM1.1 (Exists.intro _ (And.intro (hM1.2.2 7 (by decide)) ?_)))
    refine Exists.intro _ (Exists.intro _ (And.intro ((a10 _ (by omega) (by omega) (by omega) (by omega) (by omega) (by omega)).trans h7) (And.intro (vp_in_nI hd (by decide)) ?_)))
    rw [nI_clamp (by omega), eI]
    refine And.intro (fun cz => absurd cz (nI_ge hiI (by omega))) (fun _ => ?_)
    refine And.intro (by decide) ?_
    refine And.intro (by decide) ?_
    refine Exists.intro _ (And.intro hM1.1 (Exists.intro 0 (Exists.intro 0 (And.intro (Nat.le_refl _) (And.intro (Nat.le_refl _) ?_)))))
    rw [e8, e9]
    refine c_behind hX hM1.1 (hM1.2.2 42 (by decide)) ((a10 _ (by omega) (by omega) (by omega) (by omega) (by omega) (by omega)).trans h42) (by omega) ?_
    rw [ev]
    by_cases hr : stF (nxs (x / 64 ^^^ 2 ^ i)) nR (x % 64) = -2
    · have hb : bI (nbF nR nxs) k x (i + 1) S = ((bI (nbF nR nxs) k x i S).1, (bI (nbF nR nxs) k x i S).2.1, (bI (nbF nR nxs) k x i S).2.2.1, (bI (nbF nR nxs) k x i S).2.2.2 + 1) := by
        have hn : nbF nR nxs x i = none := if_pos hr
        show (match nbF nR nxs x i with | none => ((bI (nbF nR nxs) k x i S).1, (bI (nbF nR nxs) k x i S).2.1, (bI (nbF nR nxs) k x i S).2.2.1, (bI (nbF nR nxs) k x i S).2.2.2 + 1) | some y => bAdd (bI (nbF nR nxs) k x i S) y k i) = _
        rw [hn]
      refine And.intro (fun cz => absurd hr cz) (fun _ => ?_)
      refine Exists.intro _ (And.intro hM1.1 (Exists.intro _ (And.intro a3 ?_)))
      refine Exists.intro _ (And.intro hM1.1 (And.intro (by have := hM1.2.1; omega) (And.intro rfl (And.intro rfl ?_))))
      refine go_loc (lv' := [(7, .int (nI i + 1)), (6, .int (nI x)), (5, .int (nI k)), (0, .ref o), (1, .int (nI hh)), (2, .int (nI d)), (3, .int (nI e))]) ⟨rfl, rfl, rfl, rfl, rfl, rfl, rfl, trivial⟩ ?_
      rw [← nI_succ, ← nI_succ]
      refine ih (i + 1) _ (fs1.set 73 (.int (nI ((bI (nbF nR nxs) k x i S).2.2.2 + 1)))) gF gr gf gb (by omega) ?_ (by rw [hb]; exact hA) hS K1
      rw [hb]
      refine ⟨⟨uph_eq, by rw [List.length_set]; exact hM1.2.1, fun j hj => by rw [get_set_ne (Ne.symm (rfM_no3 j hj).2.1)]; exact hM1.2.2 j hj⟩, fun q q1 q2 q3 => by rw [get_set_ne (Ne.symm q2)]; exact a1 q q1 q2 q3, (get_set_ne (by decide)).trans a2, get_set (by have := hM1.2.1; omega), (get_set_ne (by decide)).trans a4, (uph_ne (by omega)).trans a5, (uph_ne (by omega)).trans a6, (uph_ne (by omega)).trans a7, (uph_ne (by omega)).trans a8, ?_, fun a x0 x1 x2 x3 x4 x5 => (uph_ne x0).trans (a10 a x0 x1 x2 x3 x4 x5)⟩
      obtain ⟨g, hg⟩ := a9
      exact ⟨g, (uph_ne (by omega)).trans hg⟩
    · obtain ⟨s, hs, hv⟩ : ∃ s, s < 2 ^ nR ∧ stF (nxs (x / 64 ^^^ 2 ^ i)) nR (x % 64) = nI s := by
        by_cases hex : ∃ s, ST (nxs (x / 64 ^^^ 2 ^ i)) nR (x % 64) s
        · obtain ⟨s, hst⟩ := hex
          obtain ⟨m, hm⟩ := id hst
          exact ⟨s, ST_lt (hnx _) hx2 hm, stF_some (hnx _) hst⟩
        · exact absurd (stF_none (fun s hst => hex ⟨s, hst⟩)) hr
      have hn : nbF nR nxs x i = some (64 * (x / 64 ^^^ 2 ^ i) + s) := by
        unfold nbF
        rw [if_neg hr, hv, nI_clamp (by omega)]
      have hb : bI (nbF nR nxs) k x (i + 1) S = bAdd (bI (nbF nR nxs) k x i S) (64 * (x / 64 ^^^ 2 ^ i) + s) k i := by
        show (match nbF nR nxs x i with | none => _ | some y => bAdd (bI (nbF nR nxs) k x i S) y k i) = _
        rw [hn]
      have hy : 64 * (x / 64 ^^^ 2 ^ i) + s < 2048 := by omega
      have hyv : (fun x => x / 64 < 2 ^ nIn ∧ x % 64 < 2 ^ nR) (64 * (x / 64 ^^^ 2 ^ i) + s) := ⟨by rw [show (64 * (x / 64 ^^^ 2 ^ i) + s) / 64 = x / 64 ^^^ 2 ^ i by omega]; exact hon, by rw [show (64 * (x / 64 ^^^ 2 ^ i) + s) % 64 = s by omega]; exact hs⟩
      have ey : (64 : Int32) * nI (x / 64 ^^^ 2 ^ i) + nI s = nI (64 * (x / 64 ^^^ 2 ^ i) + s) := by rw [show (64 : Int32) = nI 64 from rfl, nI_mul, nI_add]
      rw [hv]
      refine And.intro (fun _ => ?_) (fun cz => absurd (hv.trans cz) hr)
      refine Exists.intro _ (And.intro hM1.1 (Exists.intro _ (And.intro (hM1.2.2 48 (by decide)) ?_)))
      refine Exists.intro 3 (Exists.intro _ (Exists.intro _ (And.intro a8 (And.intro (Or.inr rfl) (And.intro (by rw [ey]; exact vp_in_nI hy (by decide)) ?_)))))
      rw [ey, nI_clamp (by omega), hA.2.2.1 _ hy]
      cases hm : memB (bI (nbF nR nxs) k x i S).2.1 (64 * (x / 64 ^^^ 2 ^ i) + s) (bI (nbF nR nxs) k x i S).1
      · refine And.intro (fun cz => absurd (tN0 rfl) cz) (fun _ => ?_)
        have hrm := hA.room hy hm
        refine Exists.intro _ (And.intro hM1.1 (Exists.intro 0 (Exists.intro 0 (And.intro (Nat.le_refl _) (And.intro (Nat.le_refl _) ?_)))))
        rw [ey]
        refine c_arrives hX hR hy hrm (fun h2 fs2 hR2 => ?_)
        refine go_loc (lv' := [(7, .int (nI i + 1)), (6, .int (nI x)), (5, .int (nI k)), (0, .ref o), (1, .int (nI hh)), (2, .int (nI d)), (3, .int (nI e))]) ⟨rfl, rfl, rfl, rfl, rfl, rfl, rfl, trivial⟩ ?_
        rw [← nI_succ]
        have hbe : bAdd (bI (nbF nR nxs) k x i S) (64 * (x / 64 ^^^ 2 ^ i) + s) k i = ((bI (nbF nR nxs) k x i S).1 + 1, upN (bI (nbF nR nxs) k x i S).2.1 (bI (nbF nR nxs) k x i S).1 (64 * (x / 64 ^^^ 2 ^ i) + s), upP (bI (nbF nR nxs) k x i S).2.2.1 (bI (nbF nR nxs) k x i S).1 (k, i), (bI (nbF nR nxs) k x i S).2.2.2) := if_neg (by rw [hm]; decide)
        refine ih (i + 1) h2 fs2 _ _ _ _ (by omega) (by rw [hb, hbe]; exact hR2) (by rw [hb]; exact hA.add hy hyv hm (by have := (bI_mono (nbF nR nxs) k x S i).1; omega)) hS K1
      · refine And.intro (fun _ => ?_) (fun cz => absurd cz (tN1 rfl))
        refine go_loc (lv' := [(7, .int (nI i + 1)), (6, .int (nI x)), (5, .int (nI k)), (0, .ref o), (1, .int (nI hh)), (2, .int (nI d)), (3, .int (nI e))]) ⟨rfl, rfl, rfl, rfl, rfl, rfl, rfl, trivial⟩ ?_
        rw [← nI_succ]
        have hbe : bAdd (bI (nbF nR nxs) k x i S) (64 * (x / 64 ^^^ 2 ^ i) + s) k i = bI (nbF nR nxs) k x i S := if_pos hm
        exact ih (i + 1) h1 fs1 gF gr gf gb (by omega) (by rw [hb, hbe]; exact hR) (by rw [hb, hbe]; exact hA) hS K1
