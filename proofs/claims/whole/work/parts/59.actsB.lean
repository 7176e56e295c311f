/-! the acts that lead to a place -/
/-- so many places back -/
def bkF (fr : Nat → Nat) : Nat → Nat → Nat
  | 0, j => j
  | f + 1, j => bkF fr f (fr j)
theorem dpF_up {fr : Nat → Nat} {Fn : Nat} (h : ∀ j, 0 < j → j < Fn → fr j < j) : ∀ (f j : Nat), j ≤ f → j < Fn → dpF fr f j = dpF fr j j
  | 0, j, hj, _ => by rw [show j = 0 by omega]
  | f + 1, j, hj, hF => by
    by_cases e : j = 0
    · subst e; rfl
    · have h1 := h j (by omega) hF
      have e1 : dpF fr (f + 1) j = dpF fr f (fr j) + 1 := if_neg e
      have e2 : dpF fr j j = dpF fr (j - 1) (fr j) + 1 := by
        obtain ⟨m, rfl⟩ : ∃ m, j = m + 1 := ⟨j - 1, by omega⟩
        exact if_neg e
      rw [e1, e2, dpF_up h f (fr j) (by omega) (by omega), dpF_up h (j - 1) (fr j) (by omega) (by omega)]
theorem dpF_s {fr : Nat → Nat} {Fn : Nat} (h : ∀ j, 0 < j → j < Fn → fr j < j) {j : Nat} (h0 : 0 < j) (hF : j < Fn) : dpF fr j j = dpF fr (fr j) (fr j) + 1 := by
  have h1 := h j h0 hF
  obtain ⟨m, rfl⟩ : ∃ m, j = m + 1 := ⟨j - 1, by omega⟩
  rw [show dpF fr (m + 1) (m + 1) = dpF fr m (fr (m + 1)) + 1 from if_neg (by omega), dpF_up h m (fr (m + 1)) (by omega) (by omega)]
set_option maxHeartbeats 4000000 in
theorem c_actToWrong {l : Launch} {G : GG} {h : AH} {nx : Nat} {Post : Option Value → AH → Nat → Prop} {v qo Fn k i : Nat} {fr by_ : Nat → Nat} {go : Nat → Int32} {fs : List Value} (hX : XC G ∧ TX l G) (hv : h v = some (.inr (7, fs))) (f2 : fs[2]? = some (.ref qo)) (f6 : fs[6]? = some (.int (nI k))) (ho : h qo = some (.inl (0, 2048, .inl go))) (hF : Fn ≤ 2048) (ef : ∀ j, 0 < j → j < Fn → go j = nI (8 * fr j + by_ j) ∧ fr j < j ∧ by_ j < 8) (hk : k < Fn) (hi : i < dpF fr k k) (hP : Post (some (.int (nI (by_ (bkF fr (dpF fr k k - 1 - i) k))))) h nx) : Runs l G i_X7_actToWrong 0 0 [.ref v, .int (nI i)] h nx Post := by
  have hfr : ∀ j, 0 < j → j < Fn → fr j < j := fun j a b => (ef j a b).2.1
  have hdk := dpF_le hfr k k (Nat.le_refl k) hk
  have loop : ∀ (m at_ : Nat), at_ < Fn → dpF fr at_ at_ = i + 1 + m → Post (some (.int (nI (by_ (bkF fr m at_))))) h nx → Go l G 7 s_X7_actToWrong 0 0 Post 26 [(4, .int (nI (i + m))), (3, .int (nI at_)), (0, .ref v), (1, .int (nI i))] [] h nx 0 0 := by
    intro m
    induction m with
    | zero =>
      intro at_ ha hd hQ
      have h0 : 0 < at_ := by
        rcases Nat.eq_zero_or_pos at_ with z | z
        · rw [z] at hd; have : dpF fr 0 0 = 0 := rfl; omega
        · exact z
      obtain ⟨q1, q2, q3⟩ := ef at_ h0 ha
      have e7 : nI (8 * fr at_ + by_ at_) &&& 7 = nI (by_ at_) := by rw [show (7 : Int32) = nI 7 from rfl, nx_and, show (7 : Nat) = 2 ^ 3 - 1 from rfl, Nat.and_two_pow_sub_one_eq_mod]; congr 1; omega
      refine Go.of hX.2 ck_X7_actToWrong [26] 40 ?_
      refine And.intro (fun _ => ?_) (fun cz => absurd (nI_le (Nat.le_refl i) (by omega)) cz)
      refine And.intro (fun cz => absurd cz (nI_pos (by omega))) (fun _ => ?_)
      refine And.intro (fun cz => absurd cz (nI_ge (b := 2048) (by omega) (by decide))) (fun _ => ?_)
      refine Exists.intro _ (And.intro hv (Exists.intro _ (And.intro f2 ?_)))
      refine Exists.intro _ (Exists.intro _ (And.intro ho (And.intro (vp_in_nI (by omega) (by decide)) ?_)))
      rw [nI_clamp (by omega), q1]
      have hQ2 : Post (some (.int (nI (8 * fr at_ + by_ at_) &&& 7))) h nx := by rw [e7]; exact hQ
      exact And.intro rfl hQ2
    | succ m ih =>
      intro at_ ha hd hQ
      have h0 : 0 < at_ := by
        rcases Nat.eq_zero_or_pos at_ with z | z
        · rw [z] at hd; have : dpF fr 0 0 = 0 := rfl; omega
        · exact z
      obtain ⟨q1, q2, q3⟩ := ef at_ h0 ha
      have hs := dpF_s hfr h0 ha
      have hl := dpF_le hfr at_ at_ (Nat.le_refl _) ha
      have e3 : nI (8 * fr at_ + by_ at_) >>> ((3 : Int32) &&& 31) = nI (fr at_) := by rw [show (3 : Int32) = nI 3 from rfl, nx_shr (by omega) (by decide), Nat.shiftRight_eq_div_pow]; congr 1; omega
      have em : nI (i + (m + 1)) + -1 = nI (i + m) := by rw [← Int32.sub_eq_add_neg, show i + (m + 1) = (i + m) + 1 by omega]; exact nI_pred _
      refine Go.of hX.2 ck_X7_actToWrong [26] 40 ?_
      refine And.intro (fun cz => absurd cz (nI_ge (by omega) (by omega))) (fun _ => ?_)
      refine And.intro (fun cz => absurd cz (nI_nle h0 (by omega))) (fun _ => ?_)
      refine And.intro (fun cz => absurd cz (nI_ge (b := 2048) (by omega) (by decide))) (fun _ => ?_)
      refine Exists.intro _ (And.intro hv (Exists.intro _ (And.intro f2 ?_)))
      refine Exists.intro _ (Exists.intro _ (And.intro ho (And.intro (vp_in_nI (by omega) (by decide)) ?_)))
      rw [nI_clamp (by omega), q1]
      refine go_loc (lv' := [(4, .int (nI (i + (m + 1)) + -1)), (3, .int (nI (8 * fr at_ + by_ at_) >>> ((3 : Int32) &&& 31))), (0, .ref v), (1, .int (nI i))]) ⟨rfl, rfl, rfl, rfl, trivial⟩ ?_
      rw [e3, em]
      exact ih (fr at_) (by omega) (by omega) hQ
  refine en_X7_actToWrong hX [26] 60 rfl ?_
  refine Exists.intro _ (And.intro hv (Exists.intro 0 (Exists.intro 0 (And.intro (Nat.le_refl _) (And.intro (Nat.le_refl _) (c_actsToWrong hX hv f2 f6 ho hF ef hk ?_))))))
  refine And.intro (fun cz => absurd cz (nI_pos (by omega))) (fun _ => ?_)
  refine And.intro (fun _ => ?_) (fun cz => absurd (nI_lt hi (by omega)) cz)
  refine Exists.intro _ (And.intro hv (Exists.intro _ (And.intro f6 ?_)))
  have hl0 := loop (dpF fr k k - 1 - i) k hk (by omega) hP
  rw [show i + (dpF fr k k - 1 - i) = dpF fr k k - 1 by omega, ← nI_sub (show 1 ≤ dpF fr k k by omega)] at hl0
  exact go_loc (lv' := [(4, .int (nI (dpF fr k k) - nI 1)), (3, .int (nI k)), (0, .ref v), (1, .int (nI i))]) ⟨rfl, rfl, rfl, rfl, trivial⟩ hl0
