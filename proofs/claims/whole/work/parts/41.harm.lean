/-! x's flaws -/
/-- the circuit that a flaw of a contact hurts -/
def huF (ow : Nat → Nat) (f : Option Nat) : Nat := match f with
  | some n => if n < 200 then 2 ^ ow (n / 4) else 0
  | none => 0
theorem fl_3 {n : Nat} : nI n &&& 3 = nI (n % 4) := by
  rw [show (3 : Int32) = nI 3 from rfl, nx_and, show (3 : Nat) = 2 ^ 2 - 1 from rfl, Nat.and_two_pow_sub_one_eq_mod]
theorem fl_1 {n : Nat} : nI n &&& 1 = nI (n % 2) := by
  rw [show (1 : Int32) = nI 1 from rfl, nx_and, show (1 : Nat) = 2 ^ 1 - 1 from rfl, Nat.and_two_pow_sub_one_eq_mod]
theorem fl_s2 {n : Nat} (h : n < 2 ^ 31) : nI n >>> ((2 : Int32) &&& 31) = nI (n / 4) := by
  rw [show (2 : Int32) = nI 2 from rfl, nx_shr h (by decide), Nat.shiftRight_eq_div_pow]
theorem bl_ort {w z : Int64} {k : Nat} (hk : k < 64) (h : ∀ i, i < 64 → bl z i = decide (i = k)) (i : Nat) : bl (w ||| z) i = (bl w i || decide (i = k)) := by
  rw [bl_or]
  rcases Nat.lt_or_ge i 64 with hi | hi
  · rw [h i hi]
  · rw [bl_big hi, bl_big hi, decide_eq_false (by omega)]
/-- the fields of a hut that flaws change -/
def HFld (fs : List Value) (d : Nat) (wz bz cz : Int64) (st su hurt : Nat) : Prop := fs.length = 16 ∧ fs[0]? = some (.ref d) ∧ fs[6]? = some (.long wz) ∧ fs[7]? = some (.long bz) ∧ fs[8]? = some (.long cz) ∧ fs[9]? = some (.int (nI st)) ∧ fs[10]? = some (.int (nI su)) ∧ fs[11]? = some (.int (nI hurt))
set_option maxHeartbeats 4000000 in
theorem c_harm {l : Launch} {G : GG} {h : AH} {nx : Nat} {Post : Option Value → AH → Nat → Prop} {u d qo K nR st su hurt : Nat} {wz bz cz : Int64} {ow : Nat → Nat} {go : Nat → Int32} {f : Option Nat} {fs fd : List Value} (hX : XC G ∧ TX l G) (hu : h u = some (.inr (3, fs))) (hH : HFld fs d wz bz cz st su hurt) (hd : h d = some (.inr (0, fd))) (d12 : fd[12]? = some (.ref qo)) (ho : h qo = some (.inl (0, 40, .inl go))) (eo : ∀ k, k < K → go k = nI (ow k) ∧ ow k < 11) (hK : K ≤ 40) (hR6 : nR ≤ 6) (hf : okF K nR f) (hP : ∀ (fs1 : List Value) (wz1 bz1 cz1 : Int64), HFld fs1 d wz1 bz1 cz1 (st ||| skF f) (su ||| suF f) (hurt ||| huF ow f) → (∀ k, bl wz1 k = (bl wz k || wlF f k)) → (∀ k, bl bz1 k = (bl bz k || brF f k)) → (∀ k, bl cz1 k = (bl cz k || crF f k)) → (∀ k, k < 6 ∨ 11 < k → fs1[k]? = fs[k]?) → Post none (uph h u (.inr (3, fs1))) nx) : Runs l G i_X3_harm 0 0 [.ref u, .int (flI f)] h nx Post := by
  have hH0 := hH
  obtain ⟨e16, e0, e6, e7, e8, e9, e10, e11⟩ := hH
  have hdu : d ≠ u := fun e => by rw [e, hu] at hd; cases hd
  have hqu : qo ≠ u := fun e => by rw [e, hu] at ho; cases ho
  cases f with
  | none =>
    refine en_X3_harm hX [] 30 rfl ?_
    refine And.intro (fun _ => ?_) (fun cz => by first | exact absurd cz (by decide) | exact absurd (by decide) cz)
    refine And.intro (fun _ => ?_) (fun cz => by first | exact absurd cz (by decide) | exact absurd (by decide) cz)
    have := hP fs wz bz cz (by rw [show st ||| skF none = st from Nat.or_zero st, show su ||| suF none = su from Nat.or_zero su, show hurt ||| huF ow none = hurt from Nat.or_zero hurt]; exact hH0) (fun k => (Bool.or_false _).symm) (fun k => (Bool.or_false _).symm) (fun k => (Bool.or_false _).symm) (fun _ _ => rfl)
    rw [uph_self hu] at this
    exact this
  | some n =>
    show Runs l G i_X3_harm 0 0 [.ref u, .int (nI n)] h nx Post
    have hn212 : n < 212 := by have := hf.2; by_cases hh : n < 200 <;> omega
    refine en_X3_harm hX [] 200 rfl ?_
    by_cases h200 : n < 200
    · obtain ⟨b1, b2, b3⟩ := hf.1 h200
      have hk40 : n / 4 < 40 := by omega
      have es := fl_s2 (n := n) (by omega)
      have e3 := fl_3 (n := n)
      refine And.intro (fun _ => ?_) (fun cz2 => absurd (nI_lt (b := 200) h200 (by decide)) cz2)
      refine And.intro (fun cz2 => absurd cz2 (nI_pos (by omega))) (fun _ => ?_)
      refine And.intro (fun cz2 => absurd cz2 (nI_ge (b := 160) (by omega) (by decide))) (fun _ => ?_)
      have esk : st ||| skF (some n) = st := by unfold skF; simp [h200]
      have esu : su ||| suF (some n) = su := by unfold suF; simp [h200]
      have ehu : hurt ||| huF ow (some n) = hurt ||| 2 ^ ow (n / 4) := by unfold huF; simp [h200]
      have hz : ∀ i, bl ((1 : Int64) <<< ((nI (n / 4)).toInt64 &&& 63)) i = decide (i = n / 4) := bl_bit (n / 4) (by omega)
      have hw1 : ∀ (w : Int64) (i : Nat), bl (w ||| (1 : Int64) <<< ((nI (n / 4)).toInt64 &&& 63)) i = (bl w i || decide (i = n / 4)) := fun w i => by rw [bl_or, hz]
      have hw0 : ∀ (w : Int64) (i : Nat), bl (w ||| 0) i = bl w i := fun w i => by rw [bl_or, bl_0, Bool.or_false]
      have ehb : (1 : Int32) <<< (nI (ow (n / 4)) &&& 31) = nI (2 ^ ow (n / 4)) := nx_pow (by have := (eo _ b1).2; omega)
      by_cases mj : n % 4 = 0
      · refine Exists.intro _ (And.intro hu (Exists.intro _ (And.intro e6 ?_)))
        refine And.intro (fun cz2 => absurd (by rw [e3, mj]; rfl) cz2) (fun _ => ?_)
        refine Exists.intro _ (And.intro hu (And.intro (by first | omega | (simp only [List.length_set]; omega)) (And.intro rfl (And.intro rfl ?_))))
        refine Exists.intro _ (And.intro uph_eq (Exists.intro _ (And.intro ((get_set_ne (by decide)).trans e7) ?_)))
        refine And.intro (fun _ => ?_) (fun cz2 => absurd (e3.symm.trans cz2) (by rw [mj]; decide))
        refine Exists.intro _ (And.intro uph_eq (And.intro (by first | omega | (simp only [List.length_set]; omega)) (And.intro rfl (And.intro rfl ?_))))
        refine Exists.intro _ (And.intro uph_eq (Exists.intro _ (And.intro ((get_set_ne (by decide)).trans ((get_set_ne (by decide)).trans e8)) ?_)))
        refine And.intro (fun _ => ?_) (fun cz2 => absurd (e3.symm.trans cz2) (by rw [mj]; decide))
        refine Exists.intro _ (And.intro uph_eq (And.intro (by first | omega | (simp only [List.length_set]; omega)) (And.intro rfl (And.intro rfl ?_))))
        refine Exists.intro _ (And.intro uph_eq (Exists.intro _ (And.intro ((get_set_ne (by decide)).trans ((get_set_ne (by decide)).trans ((get_set_ne (by decide)).trans e11))) ?_)))
        refine Exists.intro _ (And.intro uph_eq (Exists.intro _ (And.intro ((get_set_ne (by decide)).trans ((get_set_ne (by decide)).trans ((get_set_ne (by decide)).trans e0))) ?_)))
        refine Exists.intro _ (And.intro (by rw [uph_ne hdu, uph_ne hdu, uph_ne hdu]; exact hd) (Exists.intro _ (And.intro d12 ?_)))
        refine Exists.intro _ (Exists.intro _ (And.intro (by rw [uph_ne hqu, uph_ne hqu, uph_ne hqu]; exact ho) (And.intro (by rw [es]; exact vp_in_nI hk40 (by decide)) ?_)))
        rw [es, nI_clamp (by omega), (eo _ b1).1]
        refine Exists.intro _ (And.intro uph_eq (And.intro (by simp only [List.length_set]; omega) (And.intro rfl (And.intro rfl ?_))))
        rw [uph_uph, uph_uph, uph_uph, ehb, nx_or]
        refine hP _ (wz ||| (1 : Int64) <<< ((nI (n / 4)).toInt64 &&& 63)) (bz ||| 0) (cz ||| 0) ⟨by simp only [List.length_set]; exact e16, ?_, ?_, ?_, ?_, ?_, ?_, ?_⟩ (fun k => ?_) (fun k => ?_) (fun k => ?_) (fun k hk => ?_)
        · exact (get_set_ne (by decide)).trans ((get_set_ne (by decide)).trans ((get_set_ne (by decide)).trans ((get_set_ne (by decide)).trans (e0))))
        · exact (get_set_ne (by decide)).trans ((get_set_ne (by decide)).trans ((get_set_ne (by decide)).trans (get_set (by omega))))
        · exact (get_set_ne (by decide)).trans ((get_set_ne (by decide)).trans (get_set (by simp only [List.length_set]; omega)))
        · exact (get_set_ne (by decide)).trans (get_set (by simp only [List.length_set]; omega))
        · rw [esk]; exact (get_set_ne (by decide)).trans ((get_set_ne (by decide)).trans ((get_set_ne (by decide)).trans ((get_set_ne (by decide)).trans (e9))))
        · rw [esu]; exact (get_set_ne (by decide)).trans ((get_set_ne (by decide)).trans ((get_set_ne (by decide)).trans ((get_set_ne (by decide)).trans (e10))))
        · rw [ehu]; exact get_set (by simp only [List.length_set]; omega)
        · rw [hw1]; unfold wlF; simp [h200, mj, eq_comm]
        · rw [hw0]; unfold brF; simp [mj]
        · rw [hw0]; unfold crF; simp [mj]
        · rw [get_set_ne (by omega), get_set_ne (by omega), get_set_ne (by omega), get_set_ne (by omega)]
      by_cases mj : n % 4 = 1
      · refine Exists.intro _ (And.intro hu (Exists.intro _ (And.intro e6 ?_)))
        refine And.intro (fun _ => ?_) (fun cz2 => absurd (e3.symm.trans cz2) (by rw [mj]; decide))
        refine Exists.intro _ (And.intro hu (And.intro (by first | omega | (simp only [List.length_set]; omega)) (And.intro rfl (And.intro rfl ?_))))
        refine Exists.intro _ (And.intro uph_eq (Exists.intro _ (And.intro ((get_set_ne (by decide)).trans e7) ?_)))
        refine And.intro (fun cz2 => absurd (by rw [e3, mj]; rfl) cz2) (fun _ => ?_)
        refine Exists.intro _ (And.intro uph_eq (And.intro (by first | omega | (simp only [List.length_set]; omega)) (And.intro rfl (And.intro rfl ?_))))
        refine Exists.intro _ (And.intro uph_eq (Exists.intro _ (And.intro ((get_set_ne (by decide)).trans ((get_set_ne (by decide)).trans e8)) ?_)))
        refine And.intro (fun _ => ?_) (fun cz2 => absurd (e3.symm.trans cz2) (by rw [mj]; decide))
        refine Exists.intro _ (And.intro uph_eq (And.intro (by first | omega | (simp only [List.length_set]; omega)) (And.intro rfl (And.intro rfl ?_))))
        refine Exists.intro _ (And.intro uph_eq (Exists.intro _ (And.intro ((get_set_ne (by decide)).trans ((get_set_ne (by decide)).trans ((get_set_ne (by decide)).trans e11))) ?_)))
        refine Exists.intro _ (And.intro uph_eq (Exists.intro _ (And.intro ((get_set_ne (by decide)).trans ((get_set_ne (by decide)).trans ((get_set_ne (by decide)).trans e0))) ?_)))
        refine Exists.intro _ (And.intro (by rw [uph_ne hdu, uph_ne hdu, uph_ne hdu]; exact hd) (Exists.intro _ (And.intro d12 ?_)))
        refine Exists.intro _ (Exists.intro _ (And.intro (by rw [uph_ne hqu, uph_ne hqu, uph_ne hqu]; exact ho) (And.intro (by rw [es]; exact vp_in_nI hk40 (by decide)) ?_)))
        rw [es, nI_clamp (by omega), (eo _ b1).1]
        refine Exists.intro _ (And.intro uph_eq (And.intro (by simp only [List.length_set]; omega) (And.intro rfl (And.intro rfl ?_))))
        rw [uph_uph, uph_uph, uph_uph, ehb, nx_or]
        refine hP _ (wz ||| 0) (bz ||| (1 : Int64) <<< ((nI (n / 4)).toInt64 &&& 63)) (cz ||| 0) ⟨by simp only [List.length_set]; exact e16, ?_, ?_, ?_, ?_, ?_, ?_, ?_⟩ (fun k => ?_) (fun k => ?_) (fun k => ?_) (fun k hk => ?_)
        · exact (get_set_ne (by decide)).trans ((get_set_ne (by decide)).trans ((get_set_ne (by decide)).trans ((get_set_ne (by decide)).trans (e0))))
        · exact (get_set_ne (by decide)).trans ((get_set_ne (by decide)).trans ((get_set_ne (by decide)).trans (get_set (by omega))))
        · exact (get_set_ne (by decide)).trans ((get_set_ne (by decide)).trans (get_set (by simp only [List.length_set]; omega)))
        · exact (get_set_ne (by decide)).trans (get_set (by simp only [List.length_set]; omega))
        · rw [esk]; exact (get_set_ne (by decide)).trans ((get_set_ne (by decide)).trans ((get_set_ne (by decide)).trans ((get_set_ne (by decide)).trans (e9))))
        · rw [esu]; exact (get_set_ne (by decide)).trans ((get_set_ne (by decide)).trans ((get_set_ne (by decide)).trans ((get_set_ne (by decide)).trans (e10))))
        · rw [ehu]; exact get_set (by simp only [List.length_set]; omega)
        · rw [hw0]; unfold wlF; simp [mj]
        · rw [hw1]; unfold brF; simp [h200, mj, eq_comm]
        · rw [hw0]; unfold crF; simp [mj]
        · rw [get_set_ne (by omega), get_set_ne (by omega), get_set_ne (by omega), get_set_ne (by omega)]
      have mj : n % 4 = 2 := by omega
      refine Exists.intro _ (And.intro hu (Exists.intro _ (And.intro e6 ?_)))
      refine And.intro (fun _ => ?_) (fun cz2 => absurd (e3.symm.trans cz2) (by rw [mj]; decide))
      refine Exists.intro _ (And.intro hu (And.intro (by first | omega | (simp only [List.length_set]; omega)) (And.intro rfl (And.intro rfl ?_))))
      refine Exists.intro _ (And.intro uph_eq (Exists.intro _ (And.intro ((get_set_ne (by decide)).trans e7) ?_)))
      refine And.intro (fun _ => ?_) (fun cz2 => absurd (e3.symm.trans cz2) (by rw [mj]; decide))
      refine Exists.intro _ (And.intro uph_eq (And.intro (by first | omega | (simp only [List.length_set]; omega)) (And.intro rfl (And.intro rfl ?_))))
      refine Exists.intro _ (And.intro uph_eq (Exists.intro _ (And.intro ((get_set_ne (by decide)).trans ((get_set_ne (by decide)).trans e8)) ?_)))
      refine And.intro (fun cz2 => absurd (by rw [e3, mj]; rfl) cz2) (fun _ => ?_)
      refine Exists.intro _ (And.intro uph_eq (And.intro (by first | omega | (simp only [List.length_set]; omega)) (And.intro rfl (And.intro rfl ?_))))
      refine Exists.intro _ (And.intro uph_eq (Exists.intro _ (And.intro ((get_set_ne (by decide)).trans ((get_set_ne (by decide)).trans ((get_set_ne (by decide)).trans e11))) ?_)))
      refine Exists.intro _ (And.intro uph_eq (Exists.intro _ (And.intro ((get_set_ne (by decide)).trans ((get_set_ne (by decide)).trans ((get_set_ne (by decide)).trans e0))) ?_)))
      refine Exists.intro _ (And.intro (by rw [uph_ne hdu, uph_ne hdu, uph_ne hdu]; exact hd) (Exists.intro _ (And.intro d12 ?_)))
      refine Exists.intro _ (Exists.intro _ (And.intro (by rw [uph_ne hqu, uph_ne hqu, uph_ne hqu]; exact ho) (And.intro (by rw [es]; exact vp_in_nI hk40 (by decide)) ?_)))
      rw [es, nI_clamp (by omega), (eo _ b1).1]
      refine Exists.intro _ (And.intro uph_eq (And.intro (by simp only [List.length_set]; omega) (And.intro rfl (And.intro rfl ?_))))
      rw [uph_uph, uph_uph, uph_uph, ehb, nx_or]
      refine hP _ (wz ||| 0) (bz ||| 0) (cz ||| (1 : Int64) <<< ((nI (n / 4)).toInt64 &&& 63)) ⟨by simp only [List.length_set]; exact e16, ?_, ?_, ?_, ?_, ?_, ?_, ?_⟩ (fun k => ?_) (fun k => ?_) (fun k => ?_) (fun k hk => ?_)
      · exact (get_set_ne (by decide)).trans ((get_set_ne (by decide)).trans ((get_set_ne (by decide)).trans ((get_set_ne (by decide)).trans (e0))))
      · exact (get_set_ne (by decide)).trans ((get_set_ne (by decide)).trans ((get_set_ne (by decide)).trans (get_set (by omega))))
      · exact (get_set_ne (by decide)).trans ((get_set_ne (by decide)).trans (get_set (by simp only [List.length_set]; omega)))
      · exact (get_set_ne (by decide)).trans (get_set (by simp only [List.length_set]; omega))
      · rw [esk]; exact (get_set_ne (by decide)).trans ((get_set_ne (by decide)).trans ((get_set_ne (by decide)).trans ((get_set_ne (by decide)).trans (e9))))
      · rw [esu]; exact (get_set_ne (by decide)).trans ((get_set_ne (by decide)).trans ((get_set_ne (by decide)).trans ((get_set_ne (by decide)).trans (e10))))
      · rw [ehu]; exact get_set (by simp only [List.length_set]; omega)
      · rw [hw0]; unfold wlF; simp [mj]
      · rw [hw0]; unfold brF; simp [mj]
      · rw [hw1]; unfold crF; simp [h200, mj, eq_comm]
      · rw [get_set_ne (by omega), get_set_ne (by omega), get_set_ne (by omega), get_set_ne (by omega)]
    · have esr : (nI n - 200) >>> ((1 : Int32) &&& 31) = nI ((n - 200) / 2) := by
        rw [show nI n - 200 = nI (n - 200) from nI_sub (b := 200) (by omega), show (1 : Int32) = nI 1 from rfl, nx_shr (by omega) (by decide), Nat.shiftRight_eq_div_pow]
      have ehb : (1 : Int32) <<< (((nI n - 200) >>> ((1 : Int32) &&& 31)) &&& 31) = nI (2 ^ ((n - 200) / 2)) := by rw [esr]; exact nx_pow (by omega)
      have e1 := fl_1 (n := n)
      have esk : skF (some n) = 2 ^ ((n - 200) / 2) := by unfold skF; simp [h200]
      have ehu : hurt ||| huF ow (some n) = hurt := by unfold huF; simp [h200]
      have ew : ∀ k, wlF (some n) k = false ∧ brF (some n) k = false ∧ crF (some n) k = false := fun k => by unfold wlF brF crF; simp [h200]
      refine And.intro (fun cz2 => absurd cz2 (nI_nlt (b := 200) (by omega) (by omega))) (fun _ => ?_)
      refine Exists.intro _ (And.intro hu (Exists.intro _ (And.intro e9 ?_)))
      refine Exists.intro _ (And.intro hu (And.intro (by omega) (And.intro rfl (And.intro rfl ?_))))
      refine Exists.intro _ (And.intro uph_eq (Exists.intro _ (And.intro ((get_set_ne (by decide)).trans e10) ?_)))
      by_cases m0 : n % 2 = 0
      · have esu : suF (some n) = 2 ^ ((n - 200) / 2) := by unfold suF; simp [h200, m0]
        refine And.intro (fun cz2 => absurd (by rw [e1, m0]; rfl) cz2) (fun _ => ?_)
        refine Exists.intro _ (And.intro uph_eq (And.intro (by simp only [List.length_set]; omega) (And.intro rfl (And.intro rfl ?_))))
        rw [uph_uph, ehb, nx_or, nx_or]
        refine hP _ wz bz cz ⟨by simp only [List.length_set]; exact e16, (get_set_ne (by decide)).trans ((get_set_ne (by decide)).trans e0), (get_set_ne (by decide)).trans ((get_set_ne (by decide)).trans e6), (get_set_ne (by decide)).trans ((get_set_ne (by decide)).trans e7), (get_set_ne (by decide)).trans ((get_set_ne (by decide)).trans e8), ?_, ?_, ?_⟩ (fun k => by rw [(ew k).1, Bool.or_false]) (fun k => by rw [(ew k).2.1, Bool.or_false]) (fun k => by rw [(ew k).2.2, Bool.or_false]) (fun k hk => by rw [get_set_ne (by omega), get_set_ne (by omega)])
        · rw [esk]; exact (get_set_ne (by decide)).trans (get_set (by omega))
        · rw [esu]; exact get_set (by simp only [List.length_set]; omega)
        · rw [ehu]; exact (get_set_ne (by decide)).trans ((get_set_ne (by decide)).trans e11)
      · have esu : su ||| suF (some n) = su := by unfold suF; simp [h200, m0]
        refine And.intro (fun _ => ?_) (fun cz2 => absurd (e1.symm.trans cz2) (nI_ne0 (by omega) (by omega)))
        refine Exists.intro _ (And.intro uph_eq (And.intro (by simp only [List.length_set]; omega) (And.intro rfl (And.intro rfl ?_))))
        rw [uph_uph, ehb, nx_or, show nI su ||| 0 = nI su from by rw [show (0 : Int32) = nI 0 from rfl, nx_or, Nat.or_zero]]
        refine hP _ wz bz cz ⟨by simp only [List.length_set]; exact e16, (get_set_ne (by decide)).trans ((get_set_ne (by decide)).trans e0), (get_set_ne (by decide)).trans ((get_set_ne (by decide)).trans e6), (get_set_ne (by decide)).trans ((get_set_ne (by decide)).trans e7), (get_set_ne (by decide)).trans ((get_set_ne (by decide)).trans e8), ?_, ?_, ?_⟩ (fun k => by rw [(ew k).1, Bool.or_false]) (fun k => by rw [(ew k).2.1, Bool.or_false]) (fun k => by rw [(ew k).2.2, Bool.or_false]) (fun k hk => by rw [get_set_ne (by omega), get_set_ne (by omega)])
        · rw [esk]; exact (get_set_ne (by decide)).trans (get_set (by omega))
        · rw [esu]; exact get_set (by simp only [List.length_set]; omega)
        · rw [ehu]; exact (get_set_ne (by decide)).trans ((get_set_ne (by decide)).trans e11)
