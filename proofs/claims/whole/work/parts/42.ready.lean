/-! x's huts are made ready -/
theorem uph_sw {h : AH} {u q : Nat} {A B C : AE} (hn : u ≠ q) : uph (uph (uph h u A) q B) u C = uph (uph h u C) q B := by
  funext x
  unfold uph
  by_cases e1 : x = u
  · have : ¬ x = q := fun z => hn (e1.symm.trans z)
    simp [e1, hn]
  · by_cases e2 : x = q
    · simp [e1, e2, Ne.symm hn]
    · simp [e1, e2]
/-- a flaw's number is no great one -/
def smF (f : Option Nat) : Prop := ∀ n, f = some n → n < 212
theorem smF_ok {K nR : Nat} {f : Option Nat} (hK : K ≤ 40) (hR6 : nR ≤ 6) (h : okF K nR f) : smF f := fun n e => by
  subst e
  have h2 := h.2
  by_cases hh : n < 200 <;> omega
theorem flI_inj {f g : Option Nat} (hf : smF f) (hg : smF g) (h : flI f = flI g) : f = g := by
  cases f with
  | none =>
    cases g with
    | none => rfl
    | some n => exact absurd (show nI n < 0 from (show nI n = -1 from h.symm) ▸ (by decide)) (nI_pos (by have := hg n rfl; omega))
  | some m =>
    cases g with
    | none => exact absurd (show nI m < 0 from (show nI m = -1 from h) ▸ (by decide)) (nI_pos (by have := hf m rfl; omega))
    | some n => rw [(nI_eq (by have := hf m rfl; omega) (by have := hg n rfl; omega)).mp h]
/-- a hut's fields, as its key (two drawings, a set, two flaws) has them -/
def HK (fs : List Value) (d e set : Nat) (f g : Option Nat) (ow : Nat → Nat) (ver : Int32) (qs qw ql qe : Nat) : Prop :=
  (∃ wz bz cz : Int64, HFld fs d wz bz cz (skF f ||| skF g) (suF f ||| suF g) (huF ow f ||| huF ow g) ∧ (∀ k, bl wz k = (wlF f k || wlF g k)) ∧ (∀ k, bl bz k = (brF f k || brF g k)) ∧ (∀ k, bl cz k = (crF f k || crF g k))) ∧
  fs[1]? = some (.ref e) ∧ fs[2]? = some (.int (nI set)) ∧ fs[3]? = some (.int (flI f)) ∧ fs[4]? = some (.int (flI g)) ∧ fs[5]? = some (.int ver) ∧ fs[12]? = some (.ref qs) ∧ fs[13]? = some (.ref qw) ∧ fs[14]? = some (.ref ql) ∧ fs[15]? = some (.ref qe) ∧ smF f ∧ smF g ∧ set < 2048
set_option maxHeartbeats 4000000 in
theorem c_prepareMixed {l : Launch} {G : GG} {h : AH} {nx : Nat} {Post : Option Value → AH → Nat → Prop} {u a b d e set set0 qo qs qw ql qe K nR : Nat} {f g f0 g0 : Option Nat} {ow ow0 : Nat → Nat} {ver : Int32} {go gm : Nat → Int32} {fs fa : List Value} (hX : XC G ∧ TX l G) (hu : h u = some (.inr (3, fs))) (hK0 : HK fs d e set0 f0 g0 ow0 ver qs qw ql qe) (hq : h qs = some (.inl (2, 2048, .inl gm))) (ha : h a = some (.inr (0, fa))) (a12 : fa[12]? = some (.ref qo)) (ho : h qo = some (.inl (0, 40, .inl go))) (eo : ∀ k, k < K → go k = nI (ow k) ∧ ow k < 11) (hK40 : K ≤ 40) (hR6 : nR ≤ 6) (hf : okF K nR f) (hg : okF K nR g) (hset : set < 2048) (hP1 : a = d → b = e → set = set0 → f = f0 → g = g0 → Post none h nx) (hP2 : (a ≠ d ∨ b ≠ e ∨ set ≠ set0 ∨ f ≠ f0 ∨ g ≠ g0) → ∀ (fs1 : List Value) (g1 : Nat → Int32), HK fs1 a b set f g ow (ver + 1) qs qw ql qe → (∀ i, i < 2048 → g1 i = -1) → Post none (uph (uph h u (.inr (3, fs1))) qs (.inl (2, 2048, .inl g1))) nx) : Runs l G i_X3_prepareMixed 0 0 [.ref u, .ref a, .ref b, .int (nI set), .int (flI f), .int (flI g)] h nx Post := by
  obtain ⟨⟨wz, bz, cz, hH, hw, hb, hc⟩, e1, e2, e3, e4, e5, e12, e13, e14, e15, sf0, sg0, hs0⟩ := hK0
  obtain ⟨e16, e0, _⟩ := hH
  have hau : a ≠ u := fun z => by rw [z, hu] at ha; cases ha
  have hqu : qs ≠ u := fun z => by rw [z, hu] at hq; cases hq
  have hou : qo ≠ u := fun z => by rw [z, hu] at ho; cases ho
  have fresh : (a ≠ d ∨ b ≠ e ∨ set ≠ set0 ∨ f ≠ f0 ∨ g ≠ g0) → Go l G 3 s_X3_prepareMixed 0 0 Post 43 [(0, .ref u), (1, .ref a), (2, .ref b), (3, .int (nI set)), (4, .int (flI f)), (5, .int (flI g))] [] h nx 0 0 := by
    intro hne
    refine Go.of hX.2 ck_X3_prepareMixed [] 200 ?_
    refine Exists.intro _ (And.intro hu (And.intro (by omega) (And.intro rfl (And.intro rfl ?_))))
    refine Exists.intro _ (And.intro uph_eq (And.intro (by simp only [List.length_set]; omega) (And.intro rfl (And.intro rfl ?_))))
    refine Exists.intro _ (And.intro uph_eq (And.intro (by simp only [List.length_set]; omega) (And.intro rfl (And.intro rfl ?_))))
    refine Exists.intro _ (And.intro uph_eq (And.intro (by simp only [List.length_set]; omega) (And.intro rfl (And.intro rfl ?_))))
    refine Exists.intro _ (And.intro uph_eq (And.intro (by simp only [List.length_set]; omega) (And.intro rfl (And.intro rfl ?_))))
    refine Exists.intro _ (And.intro uph_eq (And.intro (by simp only [List.length_set]; omega) (And.intro rfl (And.intro rfl ?_))))
    refine Exists.intro _ (And.intro uph_eq (And.intro (by simp only [List.length_set]; omega) (And.intro rfl (And.intro rfl ?_))))
    refine Exists.intro _ (And.intro uph_eq (And.intro (by simp only [List.length_set]; omega) (And.intro rfl (And.intro rfl ?_))))
    refine Exists.intro _ (And.intro uph_eq (And.intro (by simp only [List.length_set]; omega) (And.intro rfl (And.intro rfl ?_))))
    refine Exists.intro _ (And.intro uph_eq (And.intro (by simp only [List.length_set]; omega) (And.intro rfl (And.intro rfl ?_))))
    refine Exists.intro _ (And.intro uph_eq (And.intro (by simp only [List.length_set]; omega) (And.intro rfl (And.intro rfl ?_))))
    simp only [uph_uph]
    have hz0 : ∀ k, bl (0 : Int64) k = false := bl_0
    have hF : HFld (((((((((((fs.set 0 (.ref a)).set 1 (.ref b)).set 2 (.int (nI set))).set 3 (.int (flI f))).set 4 (.int (flI g))).set 6 (.long 0)).set 7 (.long 0)).set 8 (.long 0)).set 9 (.int 0)).set 10 (.int 0)).set 11 (.int 0)) a 0 0 0 0 0 0 := by
      refine ⟨by simp only [List.length_set]; exact e16, ?_, ?_, ?_, ?_, ?_, ?_, ?_⟩
      · exact (get_set_ne (by decide)).trans ((get_set_ne (by decide)).trans ((get_set_ne (by decide)).trans ((get_set_ne (by decide)).trans ((get_set_ne (by decide)).trans ((get_set_ne (by decide)).trans ((get_set_ne (by decide)).trans ((get_set_ne (by decide)).trans ((get_set_ne (by decide)).trans ((get_set_ne (by decide)).trans (get_set (by omega)))))))))))
      · exact (get_set_ne (by decide)).trans ((get_set_ne (by decide)).trans ((get_set_ne (by decide)).trans ((get_set_ne (by decide)).trans ((get_set_ne (by decide)).trans (get_set (by simp only [List.length_set]; omega))))))
      · exact (get_set_ne (by decide)).trans ((get_set_ne (by decide)).trans ((get_set_ne (by decide)).trans ((get_set_ne (by decide)).trans (get_set (by simp only [List.length_set]; omega)))))
      · exact (get_set_ne (by decide)).trans ((get_set_ne (by decide)).trans ((get_set_ne (by decide)).trans (get_set (by simp only [List.length_set]; omega))))
      · exact (get_set_ne (by decide)).trans ((get_set_ne (by decide)).trans (get_set (by simp only [List.length_set]; omega)))
      · exact (get_set_ne (by decide)).trans (get_set (by simp only [List.length_set]; omega))
      · exact get_set (by simp only [List.length_set]; omega)
    refine Exists.intro _ (And.intro uph_eq (Exists.intro 0 (Exists.intro 0 (And.intro (Nat.le_refl _) (And.intro (Nat.le_refl _) (c_harm (d := a) (qo := qo) (K := K) (nR := nR) (st := 0) (su := 0) (hurt := 0) (wz := 0) (bz := 0) (cz := 0) hX uph_eq hF ((uph_ne hau).trans ha) a12 ((uph_ne hou).trans ho) eo hK40 hR6 hf (fun fs1 w1 b1 c1 q1 q2 q3 q4 q5 => ?_)))))))
    rw [uph_uph]
    refine Exists.intro _ (And.intro uph_eq (Exists.intro 0 (Exists.intro 0 (And.intro (Nat.le_refl _) (And.intro (Nat.le_refl _) (c_harm (d := a) (qo := qo) (K := K) (nR := nR) hX uph_eq q1 ((uph_ne hau).trans ha) a12 ((uph_ne hou).trans ho) eo hK40 hR6 hg (fun fs2 w2 b2 c2 r1 r2 r3 r4 r5 => ?_)))))))
    rw [uph_uph]
    have up : ∀ k, k < 6 ∨ 11 < k → fs2[k]? = (((((((((((fs.set 0 (.ref a)).set 1 (.ref b)).set 2 (.int (nI set))).set 3 (.int (flI f))).set 4 (.int (flI g))).set 6 (.long 0)).set 7 (.long 0)).set 8 (.long 0)).set 9 (.int 0)).set 10 (.int 0)).set 11 (.int 0))[k]? := fun k hk => (r5 k hk).trans (q5 k hk)
    have g12 : fs2[12]? = some (.ref qs) := (up 12 (Or.inr (by decide))).trans ((get_set_ne (by decide)).trans ((get_set_ne (by decide)).trans ((get_set_ne (by decide)).trans ((get_set_ne (by decide)).trans ((get_set_ne (by decide)).trans ((get_set_ne (by decide)).trans ((get_set_ne (by decide)).trans ((get_set_ne (by decide)).trans ((get_set_ne (by decide)).trans ((get_set_ne (by decide)).trans ((get_set_ne (by decide)).trans (e12))))))))))))
    have g5 : fs2[5]? = some (.int ver) := (up 5 (Or.inl (by decide))).trans ((get_set_ne (by decide)).trans ((get_set_ne (by decide)).trans ((get_set_ne (by decide)).trans ((get_set_ne (by decide)).trans ((get_set_ne (by decide)).trans ((get_set_ne (by decide)).trans ((get_set_ne (by decide)).trans ((get_set_ne (by decide)).trans ((get_set_ne (by decide)).trans ((get_set_ne (by decide)).trans ((get_set_ne (by decide)).trans (e5))))))))))))
    refine Exists.intro _ (And.intro uph_eq (Exists.intro _ (And.intro g12 ?_)))
    refine Exists.intro 0 (Exists.intro 0 (And.intro (Nat.le_refl _) (And.intro (Nat.le_refl _) (c_fillB (v := -1) (N := 2048) (f := gm) hX ((uph_ne hqu).trans hq) (by decide) (by decide) (fun g9 hg9 => ?_)))))
    refine Exists.intro _ (And.intro (by rw [uph_ne (Ne.symm hqu)]; exact uph_eq) (Exists.intro _ (And.intro g5 ?_)))
    refine Exists.intro _ (And.intro (by rw [uph_ne (Ne.symm hqu)]; exact uph_eq) (And.intro (by have := r1.1; omega) (And.intro rfl (And.intro rfl ?_))))
    rw [uph_sw (Ne.symm hqu)]
    obtain ⟨t16, t0, t6, t7, t8, t9, t10, t11⟩ := r1
    refine hP2 hne (fs2.set 5 (.int (ver + 1))) g9 ⟨⟨w2, b2, c2, ⟨by simp only [List.length_set]; exact t16, (get_set_ne (by decide)).trans t0, (get_set_ne (by decide)).trans t6, (get_set_ne (by decide)).trans t7, (get_set_ne (by decide)).trans t8, (get_set_ne (by decide)).trans (by rw [Nat.zero_or] at t9; exact t9), (get_set_ne (by decide)).trans (by rw [Nat.zero_or] at t10; exact t10), (get_set_ne (by decide)).trans (by rw [Nat.zero_or] at t11; exact t11)⟩, fun k => by rw [r2, q2, hz0, Bool.false_or], fun k => by rw [r3, q3, hz0, Bool.false_or], fun k => by rw [r4, q4, hz0, Bool.false_or]⟩, ?_, ?_, ?_, ?_, get_set (by omega), (get_set_ne (by decide)).trans g12, ?_, ?_, ?_, smF_ok hK40 hR6 hf, smF_ok hK40 hR6 hg, hset⟩ hg9
    · exact (get_set_ne (by decide)).trans ((up 1 (Or.inl (by decide))).trans ((get_set_ne (by decide)).trans ((get_set_ne (by decide)).trans ((get_set_ne (by decide)).trans ((get_set_ne (by decide)).trans ((get_set_ne (by decide)).trans ((get_set_ne (by decide)).trans ((get_set_ne (by decide)).trans ((get_set_ne (by decide)).trans ((get_set_ne (by decide)).trans (get_set (by simp only [List.length_set]; omega))))))))))))
    · exact (get_set_ne (by decide)).trans ((up 2 (Or.inl (by decide))).trans ((get_set_ne (by decide)).trans ((get_set_ne (by decide)).trans ((get_set_ne (by decide)).trans ((get_set_ne (by decide)).trans ((get_set_ne (by decide)).trans ((get_set_ne (by decide)).trans ((get_set_ne (by decide)).trans ((get_set_ne (by decide)).trans (get_set (by simp only [List.length_set]; omega)))))))))))
    · exact (get_set_ne (by decide)).trans ((up 3 (Or.inl (by decide))).trans ((get_set_ne (by decide)).trans ((get_set_ne (by decide)).trans ((get_set_ne (by decide)).trans ((get_set_ne (by decide)).trans ((get_set_ne (by decide)).trans ((get_set_ne (by decide)).trans ((get_set_ne (by decide)).trans (get_set (by simp only [List.length_set]; omega))))))))))
    · exact (get_set_ne (by decide)).trans ((up 4 (Or.inl (by decide))).trans ((get_set_ne (by decide)).trans ((get_set_ne (by decide)).trans ((get_set_ne (by decide)).trans ((get_set_ne (by decide)).trans ((get_set_ne (by decide)).trans ((get_set_ne (by decide)).trans (get_set (by simp only [List.length_set]; omega)))))))))
    · exact (get_set_ne (by decide)).trans ((up 13 (Or.inr (by decide))).trans ((get_set_ne (by decide)).trans ((get_set_ne (by decide)).trans ((get_set_ne (by decide)).trans ((get_set_ne (by decide)).trans ((get_set_ne (by decide)).trans ((get_set_ne (by decide)).trans ((get_set_ne (by decide)).trans ((get_set_ne (by decide)).trans ((get_set_ne (by decide)).trans ((get_set_ne (by decide)).trans ((get_set_ne (by decide)).trans (e13)))))))))))))
    · exact (get_set_ne (by decide)).trans ((up 14 (Or.inr (by decide))).trans ((get_set_ne (by decide)).trans ((get_set_ne (by decide)).trans ((get_set_ne (by decide)).trans ((get_set_ne (by decide)).trans ((get_set_ne (by decide)).trans ((get_set_ne (by decide)).trans ((get_set_ne (by decide)).trans ((get_set_ne (by decide)).trans ((get_set_ne (by decide)).trans ((get_set_ne (by decide)).trans ((get_set_ne (by decide)).trans (e14)))))))))))))
    · exact (get_set_ne (by decide)).trans ((up 15 (Or.inr (by decide))).trans ((get_set_ne (by decide)).trans ((get_set_ne (by decide)).trans ((get_set_ne (by decide)).trans ((get_set_ne (by decide)).trans ((get_set_ne (by decide)).trans ((get_set_ne (by decide)).trans ((get_set_ne (by decide)).trans ((get_set_ne (by decide)).trans ((get_set_ne (by decide)).trans ((get_set_ne (by decide)).trans ((get_set_ne (by decide)).trans (e15)))))))))))))
  refine en_X3_prepareMixed hX [43] 60 rfl ?_
  refine Exists.intro _ (And.intro hu (Exists.intro _ (And.intro e0 ?_)))
  refine Exists.intro (some a) (Exists.intro (some d) (And.intro rfl (And.intro rfl (And.intro (fun z => ?_) (fun z1 => ?_)))))
  · exact go_loc (lv' := [(0, .ref u), (1, .ref a), (2, .ref b), (3, .int (nI set)), (4, .int (flI f)), (5, .int (flI g))]) ⟨rfl, rfl, rfl, rfl, rfl, rfl, trivial⟩ (fresh (Or.inl (fun y => z (by rw [y]))))
  have y1 : a = d := Option.some.inj z1
  refine Exists.intro _ (And.intro hu (Exists.intro _ (And.intro e1 ?_)))
  refine Exists.intro (some b) (Exists.intro (some e) (And.intro rfl (And.intro rfl (And.intro (fun z => ?_) (fun z2 => ?_)))))
  · exact go_loc (lv' := [(0, .ref u), (1, .ref a), (2, .ref b), (3, .int (nI set)), (4, .int (flI f)), (5, .int (flI g))]) ⟨rfl, rfl, rfl, rfl, rfl, rfl, trivial⟩ (fresh (Or.inr (Or.inl (fun y => z (by rw [y])))))
  have y2 : b = e := Option.some.inj z2
  refine Exists.intro _ (And.intro hu (Exists.intro _ (And.intro e2 ?_)))
  refine And.intro (fun z => ?_) (fun z3 => ?_)
  · exact go_loc (lv' := [(0, .ref u), (1, .ref a), (2, .ref b), (3, .int (nI set)), (4, .int (flI f)), (5, .int (flI g))]) ⟨rfl, rfl, rfl, rfl, rfl, rfl, trivial⟩ (fresh (Or.inr (Or.inr (Or.inl (fun y => z (by rw [y]))))))
  have y3 : set = set0 := (nI_eq (by omega) (by omega)).mp z3
  refine Exists.intro _ (And.intro hu (Exists.intro _ (And.intro e3 ?_)))
  refine And.intro (fun z => ?_) (fun z4 => ?_)
  · exact go_loc (lv' := [(0, .ref u), (1, .ref a), (2, .ref b), (3, .int (nI set)), (4, .int (flI f)), (5, .int (flI g))]) ⟨rfl, rfl, rfl, rfl, rfl, rfl, trivial⟩ (fresh (Or.inr (Or.inr (Or.inr (Or.inl (fun y => z (by rw [y])))))))
  refine Exists.intro _ (And.intro hu (Exists.intro _ (And.intro e4 ?_)))
  refine And.intro (fun z => ?_) (fun z5 => ?_)
  · exact go_loc (lv' := [(0, .ref u), (1, .ref a), (2, .ref b), (3, .int (nI set)), (4, .int (flI f)), (5, .int (flI g))]) ⟨rfl, rfl, rfl, rfl, rfl, rfl, trivial⟩ (fresh (Or.inr (Or.inr (Or.inr (Or.inr (fun y => z (by rw [y])))))))
  exact hP1 y1 y2 y3 (flI_inj (smF_ok hK40 hR6 hf) sf0 z4) (flI_inj (smF_ok hK40 hR6 hg) sg0 z5)
