/-! how many acts lead to a place -/
def dpF (fr : Nat → Nat) : Nat → Nat → Nat
  | 0, _ => 0
  | f + 1, j => if j = 0 then 0 else dpF fr f (fr j) + 1
theorem dpF_le {fr : Nat → Nat} {Fn : Nat} (h : ∀ j, 0 < j → j < Fn → fr j < j) : ∀ (f j : Nat), j ≤ f → j < Fn → dpF fr f j ≤ j
  | 0, _, _, _ => Nat.zero_le _
  | f + 1, j, hj, hF => by
    unfold dpF
    by_cases e : j = 0
    · rw [if_pos e]; exact Nat.zero_le _
    · rw [if_neg e]
      have h1 := h j (by omega) hF
      have := dpF_le h f (fr j) (by omega) (by omega)
      omega
/-- the places that are found come from earlier ones -/
def orgB (S : BS) : Prop := ∀ j, 0 < j → j < S.1 → (S.2.2.1 j).1 < j ∧ (S.2.2.1 j).2 < 8
theorem orgB_add {S : BS} {y k i : Nat} (h : orgB S) (hk : k < S.1) (hi : i < 8) : orgB (bAdd S y k i) := by
  unfold bAdd
  split
  · exact h
  · intro j h0 hj
    show (upP S.2.2.1 S.1 (k, i) j).1 < j ∧ (upP S.2.2.1 S.1 (k, i) j).2 < 8
    have hj2 : j < S.1 + 1 := hj
    by_cases e : j = S.1
    · rw [e, show upP S.2.2.1 S.1 (k, i) S.1 = (k, i) from if_pos rfl]
      exact ⟨hk, hi⟩
    · rw [show upP S.2.2.1 S.1 (k, i) j = S.2.2.1 j from if_neg e]
      exact h j h0 (by omega)
theorem orgB_I {nb : Nat → Nat → Option Nat} {k x : Nat} {S : BS} (h : orgB S) (hk : k < S.1) : ∀ i, i ≤ 8 → orgB (bI nb k x i S)
  | 0, _ => h
  | i + 1, hi => by
    have ih := orgB_I (nb := nb) (x := x) h hk i (by omega)
    have hm := (bI_mono nb k x S i).1
    unfold bI
    split
    · exact ih
    · exact orgB_add ih (by omega) (by omega)
theorem orgB_K {nb : Nat → Nat → Option Nat} {n : Nat} {S : BS} (hn : n ≤ 8) (h : orgB S) : ∀ k, orgB (bK nb n k S)
  | 0 => h
  | k + 1 => by
    have ih := orgB_K (nb := nb) hn h k
    rw [show bK nb n (k + 1) S = if k < (bK nb n k S).1 then bI nb k ((bK nb n k S).2.1 k) n (bK nb n k S) else bK nb n k S from rfl]
    split
    · next hk => exact orgB_I ih hk n hn
    · exact ih
set_option maxHeartbeats 4000000 in
theorem c_actsTo {l : Launch} {G : GG} {h : AH} {nx : Nat} {Post : Option Value → AH → Nat → Prop} {o Fn k : Nat} {fr : Nat → Nat} {gf : Nat → Int32} {fs : List Value} (hX : XC G ∧ TX l G) (hM : MA h o fs) (h46 : h (o + 1 + 46) = some (.inl (0, 2048, .inl gf))) (hF : Fn ≤ 2048) (e0 : gf 0 = -1) (ef : ∀ j, 0 < j → j < Fn → gf j = nI (fr j) ∧ fr j < j) (hk : k < Fn) (hP : Post (some (.int (nI (dpF fr k k)))) h nx) : Runs l G i_X12_actsTo 0 0 [.ref o, .int (nI k)] h nx Post := by
  have loop : ∀ (f j n : Nat), j ≤ f → j < Fn → Post (some (.int (nI (n + dpF fr f j)))) h nx → Go l G 12 s_X12_actsTo 0 0 Post 4 [(3, .int (nI j)), (2, .int (nI n)), (0, .ref o)] [] h nx 0 0 := by
    intro f
    induction f with
    | zero =>
      intro j n hj hjF hQ
      obtain rfl : j = 0 := by omega
      refine Go.of hX.2 ck_X12_actsTo [4] 30 ?_
      refine Exists.intro _ (And.intro hM.1 (Exists.intro _ (And.intro (hM.2.2 46 (by decide)) ?_)))
      refine Exists.intro _ (Exists.intro _ (And.intro h46 (And.intro (vp_in_nI (by omega) (by decide)) ?_)))
      rw [nI_clamp (by omega), e0]
      refine And.intro (fun _ => ?_) (fun cz => by first | exact absurd cz (by decide) | exact absurd (by decide) cz)
      exact And.intro rfl hQ
    | succ f ih =>
      intro j n hj hjF hQ
      by_cases e : j = 0
      · subst e
        rw [show dpF fr (f + 1) 0 = 0 from rfl] at hQ
        refine Go.of hX.2 ck_X12_actsTo [4] 30 ?_
        refine Exists.intro _ (And.intro hM.1 (Exists.intro _ (And.intro (hM.2.2 46 (by decide)) ?_)))
        refine Exists.intro _ (Exists.intro _ (And.intro h46 (And.intro (vp_in_nI (by omega) (by decide)) ?_)))
        rw [nI_clamp (by omega), e0]
        refine And.intro (fun _ => ?_) (fun cz => by first | exact absurd cz (by decide) | exact absurd (by decide) cz)
        exact And.intro rfl hQ
      · obtain ⟨q1, q2⟩ := ef j (by omega) hjF
        rw [show dpF fr (f + 1) j = dpF fr f (fr j) + 1 from if_neg e] at hQ
        refine Go.of hX.2 ck_X12_actsTo [4] 40 ?_
        refine Exists.intro _ (And.intro hM.1 (Exists.intro _ (And.intro (hM.2.2 46 (by decide)) ?_)))
        refine Exists.intro _ (Exists.intro _ (And.intro h46 (And.intro (vp_in_nI (by omega) (by decide)) ?_)))
        rw [nI_clamp (by omega), q1]
        refine And.intro (fun cz => absurd (show nI (fr j) < 0 from cz ▸ (by decide)) (nI_pos (by omega))) (fun _ => ?_)
        refine Exists.intro _ (And.intro hM.1 (Exists.intro _ (And.intro (hM.2.2 46 (by decide)) ?_)))
        refine Exists.intro _ (Exists.intro _ (And.intro h46 (And.intro (vp_in_nI (by omega) (by decide)) ?_)))
        rw [nI_clamp (by omega), q1]
        refine go_loc (lv' := [(3, .int (nI (fr j))), (2, .int (nI n + 1)), (0, .ref o)]) ⟨rfl, rfl, rfl, trivial⟩ ?_
        rw [← nI_succ]
        exact ih (fr j) (n + 1) (by omega) (by omega) (by rw [show n + 1 + dpF fr f (fr j) = n + (dpF fr f (fr j) + 1) by omega]; exact hQ)
  refine en_X12_actsTo hX [4] 20 rfl ?_
  exact go_loc (lv' := [(3, .int (nI k)), (2, .int (nI 0)), (0, .ref o)]) ⟨rfl, rfl, rfl, trivial⟩ (loop k k 0 (Nat.le_refl k) hk (by rw [Nat.zero_add]; exact hP))
set_option maxHeartbeats 4000000 in
theorem c_actsToWrong {l : Launch} {G : GG} {h : AH} {nx : Nat} {Post : Option Value → AH → Nat → Prop} {v qo Fn k : Nat} {fr by_ : Nat → Nat} {go : Nat → Int32} {fs : List Value} (hX : XC G ∧ TX l G) (hv : h v = some (.inr (7, fs))) (f2 : fs[2]? = some (.ref qo)) (f6 : fs[6]? = some (.int (nI k))) (ho : h qo = some (.inl (0, 2048, .inl go))) (hF : Fn ≤ 2048) (ef : ∀ j, 0 < j → j < Fn → go j = nI (8 * fr j + by_ j) ∧ fr j < j ∧ by_ j < 8) (hk : k < Fn) (hP : Post (some (.int (nI (dpF fr k k)))) h nx) : Runs l G i_X7_actsToWrong 0 0 [.ref v] h nx Post := by
  have loop : ∀ (f j n : Nat), j ≤ f → j < Fn → n + j < 2048 → Post (some (.int (nI (n + dpF fr f j)))) h nx → Go l G 7 s_X7_actsToWrong 0 0 Post 17 [(2, .int (nI j)), (1, .int (nI n)), (0, .ref v)] [] h nx 0 0 := by
    intro f
    induction f with
    | zero =>
      intro j n hj hjF hn hQ
      obtain rfl : j = 0 := by omega
      refine Go.of hX.2 ck_X7_actsToWrong [17] 30 ?_
      refine And.intro (fun _ => ?_) (fun cz => by first | exact absurd cz (by decide) | exact absurd (by decide) cz)
      exact And.intro rfl hQ
    | succ f ih =>
      intro j n hj hjF hn hQ
      by_cases e : j = 0
      · subst e
        rw [show dpF fr (f + 1) 0 = 0 from rfl] at hQ
        refine Go.of hX.2 ck_X7_actsToWrong [17] 30 ?_
        refine And.intro (fun _ => ?_) (fun cz => by first | exact absurd cz (by decide) | exact absurd (by decide) cz)
        exact And.intro rfl hQ
      · obtain ⟨q1, q2, q3⟩ := ef j (by omega) hjF
        rw [show dpF fr (f + 1) j = dpF fr f (fr j) + 1 from if_neg e] at hQ
        have e3 : nI (8 * fr j + by_ j) >>> ((3 : Int32) &&& 31) = nI (fr j) := by rw [show (3 : Int32) = nI 3 from rfl, nx_shr (by omega) (by decide), Nat.shiftRight_eq_div_pow]; congr 1; omega
        refine Go.of hX.2 ck_X7_actsToWrong [17] 40 ?_
        refine And.intro (fun cz => absurd cz (nI_nle (by omega) (by omega))) (fun _ => ?_)
        refine And.intro (fun cz => absurd cz (nI_ge (b := 2048) (by omega) (by decide))) (fun _ => ?_)
        refine And.intro (fun cz => absurd cz (nI_ge (b := 2048) (by omega) (by decide))) (fun _ => ?_)
        refine Exists.intro _ (And.intro hv (Exists.intro _ (And.intro f2 ?_)))
        refine Exists.intro _ (Exists.intro _ (And.intro ho (And.intro (vp_in_nI (by omega) (by decide)) ?_)))
        rw [nI_clamp (by omega), q1]
        refine go_loc (lv' := [(2, .int (nI (8 * fr j + by_ j) >>> ((3 : Int32) &&& 31))), (1, .int (nI n + 1)), (0, .ref v)]) ⟨rfl, rfl, rfl, trivial⟩ ?_
        rw [e3, ← nI_succ]
        exact ih (fr j) (n + 1) (by omega) (by omega) (by omega) (by rw [show n + 1 + dpF fr f (fr j) = n + (dpF fr f (fr j) + 1) by omega]; exact hQ)
  refine en_X7_actsToWrong hX [17] 40 rfl ?_
  refine Exists.intro _ (And.intro hv (Exists.intro _ (And.intro f6 ?_)))
  refine And.intro (fun _ => ?_) (fun cz => absurd (nI_pos' (by omega)) cz)
  refine Exists.intro _ (And.intro hv (Exists.intro _ (And.intro f6 ?_)))
  exact go_loc (lv' := [(2, .int (nI k)), (1, .int (nI 0)), (0, .ref v)]) ⟨rfl, rfl, rfl, trivial⟩ (loop k k 0 (Nat.le_refl k) hk (by omega) (by rw [Nat.zero_add]; exact hP))
set_option maxHeartbeats 4000000 in
theorem c_actsToWrongNo {l : Launch} {G : GG} {h : AH} {nx : Nat} {Post : Option Value → AH → Nat → Prop} {v : Nat} {fs : List Value} (hX : XC G ∧ TX l G) (hv : h v = some (.inr (7, fs))) (f6 : fs[6]? = some (.int (-1))) (hP : Post (some (.int (-2))) h nx) : Runs l G i_X7_actsToWrong 0 0 [.ref v] h nx Post := by
  refine en_X7_actsToWrong hX [17] 40 rfl ?_
  refine Exists.intro _ (And.intro hv (Exists.intro _ (And.intro f6 ?_)))
  refine And.intro (fun cz => by first | exact absurd cz (by decide) | exact absurd (by decide) cz) (fun _ => ?_)
  exact And.intro rfl hP
