set_option maxHeartbeats 2000000 in
theorem seg_put {l : Launch} {G : GG} {h : AH} {nx o q t : Nat} {s w : Int32} {f : Nat → Int32} {fs : List Value} {Post : Option Value → AH → Nat → Prop} (hX : XC G ∧ TX l G) (hs : ¬ s < 0) (ht : t < 2000) (ho : h o = some (.inr (12, fs))) (hl : fs.length = 99) (f0 : fs[1]? = some (.ref q)) (f1 : fs[2]? = some (.int (nI t))) (hq : h q = some (.inl (2, 2000, .inl f))) (hne : q ≠ o)
    (k : Go l G 12 s_X12_put 0 0 Post 3 [(2, .int (s + -8)), (0, .ref o), (1, .int w)] [] (uph (uph h q (.inl (2, 2000, .inl (upd f t (bt w s))))) o (.inr (12, fs.set 2 (.int (nI (t + 1)))))) nx 0 0) : Go l G 12 s_X12_put 0 0 Post 3 [(2, .int s), (0, .ref o), (1, .int w)] [] h nx 0 0 := by
  refine Go.of hX.2 ck_X12_put [3] 40 ?_
  refine And.intro (fun c1 => absurd c1 hs) (fun c1 => ?_)
  refine Exists.intro _ (And.intro ho (Exists.intro _ (And.intro f0 ?_)))
  refine Exists.intro _ (And.intro ho (Exists.intro _ (And.intro f1 ?_)))
  refine Exists.intro 2 (Exists.intro _ (Exists.intro _ (And.intro hq (And.intro (Or.inl rfl) (And.intro (vp_in_nI ht (by omega)) ?_)))))
  rw [nI_clamp (by omega)]
  refine Exists.intro _ (And.intro (by rw [uph_ne (Ne.symm hne)]; exact ho) (Exists.intro _ (And.intro f1 ?_)))
  refine Exists.intro _ (And.intro (by rw [uph_ne (Ne.symm hne)]; exact ho) (And.intro (by omega) (And.intro rfl (And.intro rfl ?_))))
  rw [nI_succ] at k
  exact go_loc (lv' := [(2, .int (s + -8)), (0, .ref o), (1, .int w)]) ⟨rfl, rfl, rfl, trivial⟩ k
set_option maxHeartbeats 2000000 in
theorem c_put {l : Launch} {G : GG} {h : AH} {nx o q t : Nat} {w : Int32} {f : Nat → Int32} {fs : List Value} {Post : Option Value → AH → Nat → Prop} (hX : XC G ∧ TX l G) (ht : t + 4 ≤ 2000) (ho : h o = some (.inr (12, fs))) (hl : fs.length = 99) (f0 : fs[1]? = some (.ref q)) (f1 : fs[2]? = some (.int (nI t))) (hq : h q = some (.inl (2, 2000, .inl f))) (hne : q ≠ o)
    (hP : Post none (uph (uph h q (.inl (2, 2000, .inl (put4 f t w)))) o (.inr (12, fs.set 2 (.int (nI (t + 4)))))) nx) : Runs l G i_X12_put 0 0 [.ref o, .int w] h nx Post := by
  refine en_X12_put hX [3] 10 rfl ?_
  refine go_loc (lv' := [(2, .int 24), (0, .ref o), (1, .int w)]) ⟨rfl, rfl, rfl, trivial⟩ ?_
  refine seg_put hX (by decide) (by omega) ho hl f0 f1 hq hne ?_
  refine seg_put hX (t := t + 1) (fs := fs.set 2 (.int (nI (t + 1)))) (by decide) (by omega) uph_eq (by rw [List.length_set]; exact hl) (by rw [get_set_ne (by decide)]; exact f0) (get_set (by omega)) (by rw [uph_ne hne]; exact uph_eq) hne ?_
  rw [uph4 hne, set_set']
  refine seg_put hX (t := t + 2) (fs := fs.set 2 (.int (nI (t + 2)))) (by decide) (by omega) uph_eq (by rw [List.length_set]; exact hl) (by rw [get_set_ne (by decide)]; exact f0) (get_set (by omega)) (by rw [uph_ne hne]; exact uph_eq) hne ?_
  rw [uph4 hne, set_set']
  refine seg_put hX (t := t + 3) (fs := fs.set 2 (.int (nI (t + 3)))) (by decide) (by omega) uph_eq (by rw [List.length_set]; exact hl) (by rw [get_set_ne (by decide)]; exact f0) (get_set (by omega)) (by rw [uph_ne hne]; exact uph_eq) hne ?_
  rw [uph4 hne, set_set']
  refine Go.of hX.2 ck_X12_put [] 10 ?_
  refine And.intro (fun c1 => hP) (fun c1 => absurd (by decide) c1)
set_option maxHeartbeats 2000000 in
theorem c_backM {l : Launch} {G : GG} {h : AH} {nx o t : Nat} {n : Int32} {fs : List Value} {Post : Option Value → AH → Nat → Prop} (hX : XC G ∧ TX l G) (ho : h o = some (.inr (12, fs))) (hl : fs.length = 99) (f1 : fs[2]? = some (.int (nI t)))
    (hP1 : n < 0 ∨ nI t < n → Post (some (.int (-1))) h nx) (hP2 : ¬ n < 0 → ¬ nI t < n → Post (some (.int (nI t - n))) (uph h o (.inr (12, fs.set 2 (.int (nI t - n))))) nx) : Runs l G i_X12_back 0 0 [.ref o, .int n] h nx Post := by
  refine en_X12_back hX [] 40 rfl ?_
  refine And.intro (fun c1 => ?_) (fun c1 => ?_)
  · exact And.intro rfl (hP1 (Or.inl c1))
  · refine Exists.intro _ (And.intro ho (Exists.intro _ (And.intro f1 ?_)))
    refine And.intro (fun c2 => ?_) (fun c2 => ?_)
    · refine Exists.intro _ (And.intro ho (Exists.intro _ (And.intro f1 ?_)))
      refine Exists.intro _ (And.intro ho (And.intro (by omega) (And.intro rfl (And.intro rfl ?_))))
      refine Exists.intro _ (And.intro uph_eq (Exists.intro _ (And.intro (get_set (by omega)) ?_)))
      exact And.intro rfl (hP2 c1 (Int32.not_lt.mpr c2))
    · exact And.intro rfl (hP1 (Or.inr (Int32.not_le.mp c2)))
