/-! the model: pieces of read, and read of the empty text -/
theorem c_byteAtEnd {l : Launch} {G : GG} {h : AH} {nx : Nat} {Post : Option Value → AH → Nat → Prop} {o : Nat} {i n : Int32} {fs : List Value} (hX : XC G ∧ TX l G) (ho : h o = some (.inr (12, fs))) (f4 : fs[4]? = some (.int n)) (hge : n ≤ i) (hP : Post (some (.int 0)) h nx) : Runs l G i_X12_byteAt 0 0 [.ref o, .int i] h nx Post := by
  refine en_X12_byteAt hX [] 30 rfl ?_
  refine Exists.intro _ (And.intro ho (Exists.intro _ (And.intro f4 ?_)))
  refine And.intro (fun _ => ?_) (fun cz => absurd hge cz)
  exact And.intro rfl hP
set_option maxHeartbeats 4000000 in
theorem c_token {l : Launch} {G : GG} {h : AH} {nx : Nat} {Post : Option Value → AH → Nat → Prop} {o t k5 k6 k7 k8 : Nat} {kd wh vl : Int32} {nm : Int64} {g5 g6 g7 : Nat → Int32} {g8 : Nat → Int64} {fs : List Value} (hX : XC G ∧ TX l G) (ht : t < 403) (ho : h o = some (.inr (12, fs))) (fln : fs.length = 99) (f5 : fs[5]? = some (.ref k5)) (f6 : fs[6]? = some (.ref k6)) (f7 : fs[7]? = some (.ref k7)) (f8 : fs[8]? = some (.ref k8)) (f10 : fs[10]? = some (.int (nI t))) (h5 : h k5 = some (.inl (0, 403, .inl g5))) (h6 : h k6 = some (.inl (0, 403, .inl g6))) (h7 : h k7 = some (.inl (0, 403, .inl g7))) (h8 : h k8 = some (.inl (1, 403, .inr (.inl g8)))) (n65 : k6 ≠ k5) (n75 : k7 ≠ k5) (n76 : k7 ≠ k6) (hP : Post none (uph (uph (uph (uph (uph h k5 (.inl (0, 403, .inl (upd g5 t kd)))) k6 (.inl (0, 403, .inl (upd g6 t wh)))) k7 (.inl (0, 403, .inl (upd g7 t vl)))) k8 (.inl (1, 403, .inr (.inl (vp_updL g8 t nm))))) o (.inr (12, fs.set 10 (.int (nI (t + 1)))))) nx) : Runs l G i_X12_token 0 0 [.ref o, .int kd, .int wh, .int vl, .long nm] h nx Post := by
  have a5 : k5 ≠ o := fun e => by rw [e, ho] at h5; cases h5
  have a6 : k6 ≠ o := fun e => by rw [e, ho] at h6; cases h6
  have a7 : k7 ≠ o := fun e => by rw [e, ho] at h7; cases h7
  have a8 : k8 ≠ o := fun e => by rw [e, ho] at h8; cases h8
  have b58 : k8 ≠ k5 := fun e => by rw [e, h5] at h8; cases h8
  have b68 : k8 ≠ k6 := fun e => by rw [e, h6] at h8; cases h8
  have b78 : k8 ≠ k7 := fun e => by rw [e, h7] at h8; cases h8
  refine en_X12_token hX [] 60 rfl ?_
  refine Exists.intro _ (And.intro ho (Exists.intro _ (And.intro f5 ?_)))
  refine Exists.intro _ (And.intro ho (Exists.intro _ (And.intro f10 ?_)))
  refine Exists.intro _ (Exists.intro _ (And.intro h5 (And.intro (vp_in_nI ht (by decide)) ?_)))
  rw [nI_clamp (by omega)]
  refine Exists.intro _ (And.intro (by rw [uph_ne (Ne.symm a5)]; exact ho) (Exists.intro _ (And.intro f6 ?_)))
  refine Exists.intro _ (And.intro (by rw [uph_ne (Ne.symm a5)]; exact ho) (Exists.intro _ (And.intro f10 ?_)))
  refine Exists.intro _ (Exists.intro _ (And.intro (by rw [uph_ne n65]; exact h6) (And.intro (vp_in_nI ht (by decide)) ?_)))
  rw [nI_clamp (by omega)]
  refine Exists.intro _ (And.intro (by rw [uph_ne (Ne.symm a6), uph_ne (Ne.symm a5)]; exact ho) (Exists.intro _ (And.intro f7 ?_)))
  refine Exists.intro _ (And.intro (by rw [uph_ne (Ne.symm a6), uph_ne (Ne.symm a5)]; exact ho) (Exists.intro _ (And.intro f10 ?_)))
  refine Exists.intro _ (Exists.intro _ (And.intro (by rw [uph_ne n76, uph_ne n75]; exact h7) (And.intro (vp_in_nI ht (by decide)) ?_)))
  rw [nI_clamp (by omega)]
  refine Exists.intro _ (And.intro (by rw [uph_ne (Ne.symm a7), uph_ne (Ne.symm a6), uph_ne (Ne.symm a5)]; exact ho) (Exists.intro _ (And.intro f8 ?_)))
  refine Exists.intro _ (And.intro (by rw [uph_ne (Ne.symm a7), uph_ne (Ne.symm a6), uph_ne (Ne.symm a5)]; exact ho) (Exists.intro _ (And.intro f10 ?_)))
  refine Exists.intro _ (Exists.intro _ (And.intro (by rw [uph_ne b78, uph_ne b68, uph_ne b58]; exact h8) (And.intro (vp_in_nI ht (by decide)) ?_)))
  rw [nI_clamp (by omega)]
  refine Exists.intro _ (And.intro (by rw [uph_ne (Ne.symm a8), uph_ne (Ne.symm a7), uph_ne (Ne.symm a6), uph_ne (Ne.symm a5)]; exact ho) (Exists.intro _ (And.intro f10 ?_)))
  refine Exists.intro _ (And.intro (by rw [uph_ne (Ne.symm a8), uph_ne (Ne.symm a7), uph_ne (Ne.symm a6), uph_ne (Ne.symm a5)]; exact ho) (And.intro (by omega) (And.intro rfl (And.intro rfl ?_))))
  rw [← nI_succ]
  exact hP
set_option maxHeartbeats 4000000 in
theorem c_is {l : Launch} {G : GG} {h : AH} {nx : Nat} {Post : Option Value → AH → Nat → Prop} {o t k5 : Nat} {kd v : Int32} {g5 : Nat → Int32} {fs : List Value} (hX : XC G ∧ TX l G) (ho : h o = some (.inr (12, fs))) (f13 : fs[13]? = some (.int v)) (f11 : fs[11]? = some (.int (nI t))) (ht : t < 403) (f5 : fs[5]? = some (.ref k5)) (h5 : h k5 = some (.inl (0, 403, .inl g5))) (hP : Post (some (.int (if v = 0 ∧ g5 t = kd then 1 else 0))) h nx) : Runs l G i_X12_is 0 0 [.ref o, .int kd] h nx Post := by
  refine en_X12_is hX [] 60 rfl ?_
  refine Exists.intro _ (And.intro ho (Exists.intro _ (And.intro f13 ?_)))
  refine And.intro (fun c1 => ?_) (fun c1 => ?_)
  · rw [if_neg (fun z => c1 z.1)] at hP
    exact And.intro rfl hP
  · refine Exists.intro _ (And.intro ho (Exists.intro _ (And.intro f5 ?_)))
    refine Exists.intro _ (And.intro ho (Exists.intro _ (And.intro f11 ?_)))
    refine Exists.intro _ (Exists.intro _ (And.intro h5 (And.intro (vp_in_nI ht (by decide)) ?_)))
    rw [nI_clamp (by omega)]
    refine And.intro (fun c2 => ?_) (fun c2 => ?_)
    · rw [if_neg (fun z => c2 z.2)] at hP
      exact And.intro rfl hP
    · rw [if_pos ⟨c1, c2⟩] at hP
      exact And.intro rfl hP
def cmF (fs : List Value) (d : Int32) : List Value := ((((fs.set 19 (.int d)).set 84 (.int 0)).set 50 (.int 0)).set 51 (.int 0)).set 55 (.int 0)
set_option maxHeartbeats 4000000 in
theorem c_comes {l : Launch} {G : GG} {h : AH} {nx : Nat} {Post : Option Value → AH → Nat → Prop} {o ks ka kd : Nat} {d : Int32} {gs ga gd : Nat → Int32} {fs : List Value} (hX : XC G ∧ TX l G) (ho : h o = some (.inr (12, fs))) (fln : fs.length = 99) (f52 : fs[52]? = some (.ref ks)) (f53 : fs[53]? = some (.ref ka)) (f54 : fs[54]? = some (.ref kd)) (hs : h ks = some (.inl (3, 40, .inl gs))) (ha : h ka = some (.inl (0, 6, .inl ga))) (hd : h kd = some (.inl (0, 6, .inl gd))) (nad : kd ≠ ka) (hP : ∀ gs1 ga1 gd1 : Nat → Int32, (∀ i, i < 40 → gs1 i = 0) → (∀ i, i < 6 → ga1 i = 0) → (∀ i, i < 6 → gd1 i = 0) → Post none (uph (uph (uph (uph h o (.inr (12, cmF fs d))) ks (.inl (3, 40, .inl gs1))) ka (.inl (0, 6, .inl ga1))) kd (.inl (0, 6, .inl gd1))) nx) : Runs l G i_X12_comes 0 0 [.ref o, .int d] h nx Post := by
  have ns : ks ≠ o := fun e => by rw [e, ho] at hs; cases hs
  have na : ka ≠ o := fun e => by rw [e, ho] at ha; cases ha
  have nd : kd ≠ o := fun e => by rw [e, ho] at hd; cases hd
  have nsa : ka ≠ ks := fun e => by rw [e, hs] at ha; cases ha
  have nsd : kd ≠ ks := fun e => by rw [e, hs] at hd; cases hd
  have e52 : (cmF fs d)[52]? = some (.ref ks) := by unfold cmF; simp [List.getElem?_set, f52]
  have e53 : (cmF fs d)[53]? = some (.ref ka) := by unfold cmF; simp [List.getElem?_set, f53]
  have e54 : (cmF fs d)[54]? = some (.ref kd) := by unfold cmF; simp [List.getElem?_set, f54]
  have loop2 : ∀ (k j : Nat) (g1 g2 g3 : Nat → Int32), j + k = 6 → (∀ i, i < 40 → g1 i = 0) → (∀ i, i < j → g2 i = 0) → (∀ i, i < j → g3 i = 0) → Go l G 12 s_X12_comes 0 0 Post 48 [(2, .int (nI j)), (0, .ref o), (1, .int d)] [] (uph (uph (uph (uph h o (.inr (12, cmF fs d))) ks (.inl (3, 40, .inl g1))) ka (.inl (0, 6, .inl g2))) kd (.inl (0, 6, .inl g3))) nx 0 0 := by
    intro k
    induction k with
    | zero =>
      intro j g1 g2 g3 hj z1 z2 z3
      obtain rfl : j = 6 := by omega
      refine Go.of hX.2 ck_X12_comes [48] 20 ?_
      refine And.intro (fun _ => ?_) (fun cz => by first | exact absurd cz (by decide) | exact absurd (by decide) cz)
      exact hP g1 g2 g3 z1 z2 z3
    | succ k ih =>
      intro j g1 g2 g3 hj z1 z2 z3
      refine Go.of hX.2 ck_X12_comes [48] 40 ?_
      refine And.intro (fun c1 => absurd c1 (nI_ge (b := 6) (by omega) (by decide))) (fun _ => ?_)
      refine Exists.intro _ (And.intro (by rw [uph_ne (Ne.symm nd), uph_ne (Ne.symm na), uph_ne (Ne.symm ns)]; exact uph_eq) (Exists.intro _ (And.intro e53 ?_)))
      refine Exists.intro _ (Exists.intro _ (And.intro (by rw [uph_ne (Ne.symm nad)]; exact uph_eq) (And.intro (vp_in_nI (by omega) (by decide)) ?_)))
      rw [nI_clamp (by omega)]
      refine Exists.intro _ (And.intro (by rw [uph_ne (Ne.symm na), uph_ne (Ne.symm nd), uph_ne (Ne.symm na), uph_ne (Ne.symm ns)]; exact uph_eq) (Exists.intro _ (And.intro e54 ?_)))
      refine Exists.intro _ (Exists.intro _ (And.intro (by rw [uph_ne nad]; exact uph_eq) (And.intro (vp_in_nI (by omega) (by decide)) ?_)))
      rw [nI_clamp (by omega), uph4 (Ne.symm nad)]
      refine go_loc (lv' := [(2, .int (nI j + 1)), (0, .ref o), (1, .int d)]) ⟨rfl, rfl, rfl, trivial⟩ ?_
      rw [← nI_succ]
      refine ih (j + 1) g1 _ _ (by omega) z1 (fun a h1 => ?_) (fun a h1 => ?_)
      · by_cases e : a = j
        · rw [e]; exact pk_us
        · rw [pk_un e]; exact z2 a (by omega)
      · by_cases e : a = j
        · rw [e]; exact pk_us
        · rw [pk_un e]; exact z3 a (by omega)
  have loop1 : ∀ (k j : Nat) (g1 : Nat → Int32), j + k = 40 → (∀ i, i < j → g1 i = 0) → Go l G 12 s_X12_comes 0 0 Post 27 [(2, .int (nI j)), (0, .ref o), (1, .int d)] [] (uph (uph h o (.inr (12, cmF fs d))) ks (.inl (3, 40, .inl g1))) nx 0 0 := by
    intro k
    induction k with
    | zero =>
      intro j g1 hj z1
      obtain rfl : j = 40 := by omega
      refine Go.of hX.2 ck_X12_comes [48] 20 ?_
      refine And.intro (fun _ => ?_) (fun cz => by first | exact absurd cz (by decide) | exact absurd (by decide) cz)
      have hk1 : uph (uph h o (.inr (12, cmF fs d))) ks (.inl (3, 40, .inl g1)) ka = some (.inl (0, 6, .inl ga)) := by rw [uph_ne nsa, uph_ne na]; exact ha
      have hk2 : uph (uph (uph h o (.inr (12, cmF fs d))) ks (.inl (3, 40, .inl g1))) ka (.inl (0, 6, .inl ga)) kd = some (.inl (0, 6, .inl gd)) := by rw [uph_ne nad, uph_ne nsd, uph_ne nd]; exact hd
      have h6 := loop2 6 0 g1 ga gd rfl z1 (fun a z => absurd z (Nat.not_lt_zero a)) (fun a z => absurd z (Nat.not_lt_zero a))
      rw [uph_self hk2, uph_self hk1] at h6
      exact go_loc (lv' := [(2, .int (nI 0)), (0, .ref o), (1, .int d)]) ⟨rfl, rfl, rfl, trivial⟩ h6
    | succ k ih =>
      intro j g1 hj z1
      refine Go.of hX.2 ck_X12_comes [27] 40 ?_
      refine And.intro (fun c1 => absurd c1 (nI_ge (b := 40) (by omega) (by decide))) (fun _ => ?_)
      refine Exists.intro _ (And.intro (by rw [uph_ne (Ne.symm ns)]; exact uph_eq) (Exists.intro _ (And.intro e52 ?_)))
      refine Exists.intro 3 (Exists.intro _ (Exists.intro _ (And.intro uph_eq (And.intro (Or.inr rfl) (And.intro (vp_in_nI (by omega) (by decide)) ?_)))))
      rw [uph_uph, nI_clamp (by omega)]
      refine go_loc (lv' := [(2, .int (nI j + 1)), (0, .ref o), (1, .int d)]) ⟨rfl, rfl, rfl, trivial⟩ ?_
      rw [← nI_succ]
      refine ih (j + 1) _ (by omega) (fun a h1 => ?_)
      by_cases e : a = j
      · rw [e]; exact pk_us.trans (by decide)
      · rw [pk_un e]; exact z1 a (by omega)
  refine en_X12_comes hX [27] 60 rfl ?_
  refine Exists.intro _ (And.intro ho (And.intro (by first | omega | (simp only [List.length_set]; omega)) (And.intro rfl (And.intro rfl ?_))))
  refine Exists.intro _ (And.intro uph_eq (And.intro (by first | omega | (simp only [List.length_set]; omega)) (And.intro rfl (And.intro rfl ?_))))
  refine Exists.intro _ (And.intro uph_eq (And.intro (by first | omega | (simp only [List.length_set]; omega)) (And.intro rfl (And.intro rfl ?_))))
  refine Exists.intro _ (And.intro uph_eq (And.intro (by first | omega | (simp only [List.length_set]; omega)) (And.intro rfl (And.intro rfl ?_))))
  refine Exists.intro _ (And.intro uph_eq (And.intro (by first | omega | (simp only [List.length_set]; omega)) (And.intro rfl (And.intro rfl ?_))))
  simp only [uph_uph]
  have hk0 : (uph h o (.inr (12, cmF fs d))) ks = some (.inl (3, 40, .inl gs)) := by rw [uph_ne ns]; exact hs
  rw [show uph h o (.inr (12, ((((fs.set 19 (.int d)).set 84 (.int 0)).set 50 (.int 0)).set 51 (.int 0)).set 55 (.int 0))) = uph (uph h o (.inr (12, cmF fs d))) ks (.inl (3, 40, .inl gs)) from (uph_self hk0).symm]
  exact go_loc (lv' := [(2, .int (nI 0)), (0, .ref o), (1, .int d)]) ⟨rfl, rfl, rfl, trivial⟩ (loop1 40 0 gs rfl (fun a z => absurd z (Nat.not_lt_zero a)))
set_option maxHeartbeats 4000000 in
theorem z_knows {l : Launch} {G : GG} {h : AH} {nx : Nat} {Post : Option Value → AH → Nat → Prop} {o kc : Nat} {g : Nat → Int32} {fs : List Value} (hX : XC G ∧ TX l G) (ho : h o = some (.inr (12, fs))) (f20 : fs[20]? = some (.int 0)) (f32 : fs[32]? = some (.ref kc)) (f45 : fs[45]? = some (.int 0)) (hc : h kc = some (.inl (0, 5, .inl g))) (g0 : g 0 = 0) (hP : Post none h nx) : Runs l G i_X12_knows 0 0 [.ref o] h nx Post := by
  refine en_X12_knows hX [] 80 rfl ?_
  refine Exists.intro _ (And.intro ho (Exists.intro _ (And.intro f20 ?_)))
  refine Exists.intro _ (And.intro ho (Exists.intro _ (And.intro f20 ?_)))
  refine Exists.intro _ (And.intro ho (Exists.intro _ (And.intro f32 ?_)))
  refine Exists.intro _ (And.intro ho (Exists.intro _ (And.intro f20 ?_)))
  refine Exists.intro _ (Exists.intro _ (And.intro hc (And.intro (vp_in_nI (n := 0) (by decide) (by decide)) ?_)))
  rw [show (0 : Int32).toNatClampNeg = 0 from rfl, g0]
  refine And.intro (fun _ => ?_) (fun cz => by first | exact absurd cz (by decide) | exact absurd (by decide) cz)
  refine Exists.intro _ (And.intro ho (Exists.intro _ (And.intro f45 ?_)))
  refine And.intro (fun _ => ?_) (fun cz => by first | exact absurd cz (by decide) | exact absurd (by decide) cz)
  exact hP
set_option maxHeartbeats 4000000 in
theorem z_cut {l : Launch} {G : GG} {h : AH} {nx : Nat} {Post : Option Value → AH → Nat → Prop} {o k5 k6 k7 k8 : Nat} {g5 g6 g7 : Nat → Int32} {g8 : Nat → Int64} {fs : List Value} (hX : XC G ∧ TX l G) (ho : h o = some (.inr (12, fs))) (fln : fs.length = 99) (f4 : fs[4]? = some (.int 0)) (f5 : fs[5]? = some (.ref k5)) (f6 : fs[6]? = some (.ref k6)) (f7 : fs[7]? = some (.ref k7)) (f8 : fs[8]? = some (.ref k8)) (h5 : h k5 = some (.inl (0, 403, .inl g5))) (h6 : h k6 = some (.inl (0, 403, .inl g6))) (h7 : h k7 = some (.inl (0, 403, .inl g7))) (h8 : h k8 = some (.inl (1, 403, .inr (.inl g8)))) (n65 : k6 ≠ k5) (n75 : k7 ≠ k5) (n76 : k7 ≠ k6) (hP : ∀ h1 : AH, h1 o = some (.inr (12, fs.set 10 (.int 1))) → (∃ g, h1 k5 = some (.inl (0, 403, .inl g)) ∧ g 0 = 0) → (∀ a, a ≠ o → a ≠ k5 → a ≠ k6 → a ≠ k7 → a ≠ k8 → h1 a = h a) → Post none h1 nx) : Runs l G i_X12_cut 0 0 [.ref o] h nx Post := by
  have a5 : k5 ≠ o := fun e => by rw [e, ho] at h5; cases h5
  have a6 : k6 ≠ o := fun e => by rw [e, ho] at h6; cases h6
  have a7 : k7 ≠ o := fun e => by rw [e, ho] at h7; cases h7
  have a8 : k8 ≠ o := fun e => by rw [e, ho] at h8; cases h8
  have b58 : k8 ≠ k5 := fun e => by rw [e, h5] at h8; cases h8
  refine en_X12_cut hX [] 80 rfl ?_
  refine Exists.intro _ (And.intro ho (And.intro (by omega) (And.intro rfl (And.intro rfl ?_))))
  refine Exists.intro _ (And.intro uph_eq (Exists.intro _ (And.intro (get_set (by omega)) ?_)))
  refine And.intro (fun cz => by first | exact absurd cz (by decide) | exact absurd (by decide) cz) (fun _ => ?_)
  refine Exists.intro _ (And.intro uph_eq (Exists.intro 0 (Exists.intro 0 (And.intro (Nat.le_of_ble_eq_true rfl) (And.intro (Nat.le_of_ble_eq_true rfl) (c_byteAtEnd hX uph_eq (by rw [get_set_ne (by decide)]; exact f4) (Int32.le_refl 0) ?_))))))
  refine Exists.intro _ (And.intro uph_eq (Exists.intro _ (And.intro (by rw [get_set_ne (by decide)]; exact f4) ?_)))
  refine And.intro (fun cz => by first | exact absurd cz (by decide) | exact absurd (by decide) cz) (fun _ => ?_)
  refine Exists.intro _ (And.intro uph_eq (Exists.intro _ (And.intro (by rw [get_set_ne (by decide)]; exact f4) ?_)))
  refine Exists.intro _ (And.intro uph_eq (Exists.intro 0 (Exists.intro 0 (And.intro (Nat.le_of_ble_eq_true rfl) (And.intro (Nat.le_of_ble_eq_true rfl) (c_token (t := 0) (k5 := k5) (k6 := k6) (k7 := k7) (k8 := k8) (g5 := g5) (g6 := g6) (g7 := g7) (g8 := g8) hX (by decide) uph_eq (by rw [List.length_set]; exact fln) (by rw [get_set_ne (by decide)]; exact f5) (by rw [get_set_ne (by decide)]; exact f6) (by rw [get_set_ne (by decide)]; exact f7) (by rw [get_set_ne (by decide)]; exact f8) (get_set (by omega)) (by rw [uph_ne a5]; exact h5) (by rw [uph_ne a6]; exact h6) (by rw [uph_ne a7]; exact h7) (by rw [uph_ne a8]; exact h8) n65 n75 n76 ?_))))))
  refine hP _ (by rw [set_set']; exact uph_eq) ⟨_, by rw [uph_ne a5, uph_ne (Ne.symm b58), uph_ne (Ne.symm n75), uph_ne (Ne.symm n65)]; exact uph_eq, pk_us⟩ (fun a c1 c2 c3 c4 c5 => by rw [uph_ne c1, uph_ne c5, uph_ne c4, uph_ne c3, uph_ne c2, uph_ne c1])
set_option maxHeartbeats 4000000 in
theorem z_readM {l : Launch} {G : GG} {h : AH} {nx : Nat} {Post : Option Value → AH → Nat → Prop} {h0 : AH} {o w : Nat} (hX : XC G ∧ TX l G) (hw : w = o + 1) (hM : Mk h0 w o 12 h (fsM w) arM) (hP : ∀ h1 : AH, Post (some (.int 0)) h1 nx) : Runs l G i_X12_read 0 0 [.ref o] h nx Post := by
  refine en_X12_read hX [163] 160 rfl ?_
  have ho := hM.2.1
  refine Exists.intro _ (And.intro ho (Exists.intro _ (And.intro rfl ?_)))
  refine And.intro (fun _ => ?_) (fun cz => by first | exact absurd cz (by decide) | exact absurd (by decide) cz)
  refine Exists.intro _ (And.intro ho (Exists.intro _ (And.intro rfl ?_)))
  refine Exists.intro _ (And.intro ho (And.intro (Nat.le_of_ble_eq_true rfl) (And.intro rfl (And.intro rfl ?_))))
  refine Exists.intro _ (And.intro uph_eq (Exists.intro _ (And.intro rfl ?_)))
  refine And.intro (fun _ => ?_) (fun cz => by first | exact absurd cz (by decide) | exact absurd (by decide) cz)
  refine Exists.intro _ (And.intro uph_eq (And.intro (Nat.le_of_ble_eq_true rfl) (And.intro rfl (And.intro rfl ?_))))
  refine Exists.intro _ (And.intro uph_eq (Exists.intro 0 (Exists.intro 0 (And.intro (Nat.le_of_ble_eq_true rfl) (And.intro (Nat.le_of_ble_eq_true rfl) (z_cut (k5 := w + 2) (k6 := w + 3) (k7 := w + 4) (k8 := w + 5) hX uph_eq rfl rfl rfl rfl rfl rfl (by rw [uph_ne (by omega), uph_ne (by omega)]; exact hM.2.2 2 _ rfl) (by rw [uph_ne (by omega), uph_ne (by omega)]; exact hM.2.2 3 _ rfl) (by rw [uph_ne (by omega), uph_ne (by omega)]; exact hM.2.2 4 _ rfl) (by rw [uph_ne (by omega), uph_ne (by omega)]; exact hM.2.2 5 _ rfl) (by omega) (by omega) (by omega) (fun h1 ho1 hk1 z1 => ?_)))))))
  obtain ⟨gk, hgk, gk0⟩ := hk1
  have zz : ∀ i, 6 ≤ i → h1 (w + i) = h (w + i) := fun i hi => by rw [z1 _ (by omega) (by omega) (by omega) (by omega) (by omega), uph_ne (by omega), uph_ne (by omega)]
  refine Exists.intro _ (And.intro ho1 (And.intro (Nat.le_of_ble_eq_true rfl) (And.intro rfl (And.intro rfl ?_))))
  refine Exists.intro _ (And.intro uph_eq (And.intro (Nat.le_of_ble_eq_true rfl) (And.intro rfl (And.intro rfl ?_))))
  refine Exists.intro _ (And.intro uph_eq (And.intro (Nat.le_of_ble_eq_true rfl) (And.intro rfl (And.intro rfl ?_))))
  refine Exists.intro _ (And.intro uph_eq (And.intro (Nat.le_of_ble_eq_true rfl) (And.intro rfl (And.intro rfl ?_))))
  refine Exists.intro _ (And.intro uph_eq (Exists.intro _ (And.intro rfl ?_)))
  refine Exists.intro _ (And.intro uph_eq (And.intro (Nat.le_of_ble_eq_true rfl) (And.intro rfl (And.intro rfl ?_))))
  refine Exists.intro _ (And.intro uph_eq (Exists.intro _ (And.intro rfl ?_)))
  refine Exists.intro _ (And.intro uph_eq (Exists.intro _ (And.intro rfl ?_)))
  refine Exists.intro _ (Exists.intro _ (And.intro (by rw [uph_ne (by omega), uph_ne (by omega), uph_ne (by omega), uph_ne (by omega), uph_ne (by omega)]; exact ((zz 7 (by omega)).trans (hM.2.2 7 _ rfl))) (And.intro (vp_in_nI (n := 0) (by decide) (by decide)) ?_)))
  refine Exists.intro _ (And.intro (by rw [uph_ne (by omega)]; exact uph_eq) (Exists.intro _ (And.intro rfl ?_)))
  refine Exists.intro _ (And.intro (by rw [uph_ne (by omega)]; exact uph_eq) (Exists.intro _ (And.intro rfl ?_)))
  refine Exists.intro _ (Exists.intro _ (And.intro (by rw [uph_ne (by omega), uph_ne (by omega), uph_ne (by omega), uph_ne (by omega), uph_ne (by omega), uph_ne (by omega)]; exact ((zz 10 (by omega)).trans (hM.2.2 10 _ rfl))) (And.intro (vp_in_nI (n := 0) (by decide) (by decide)) ?_)))
  refine Exists.intro _ (And.intro (by rw [uph_ne (by omega), uph_ne (by omega)]; exact uph_eq) (Exists.intro _ (And.intro rfl ?_)))
  refine Exists.intro _ (And.intro (by rw [uph_ne (by omega), uph_ne (by omega)]; exact uph_eq) (Exists.intro _ (And.intro rfl ?_)))
  refine Exists.intro _ (Exists.intro _ (And.intro (by rw [uph_ne (by omega), uph_ne (by omega), uph_ne (by omega), uph_ne (by omega), uph_ne (by omega), uph_ne (by omega), uph_ne (by omega)]; exact ((zz 13 (by omega)).trans (hM.2.2 13 _ rfl))) (And.intro (vp_in_nI (n := 0) (by decide) (by decide)) ?_)))
  refine Exists.intro _ (And.intro (by rw [uph_ne (by omega), uph_ne (by omega), uph_ne (by omega)]; exact uph_eq) (Exists.intro _ (And.intro rfl ?_)))
  refine Exists.intro _ (And.intro (by rw [uph_ne (by omega), uph_ne (by omega), uph_ne (by omega)]; exact uph_eq) (Exists.intro _ (And.intro rfl ?_)))
  refine Exists.intro _ (Exists.intro _ (And.intro (by rw [uph_ne (by omega), uph_ne (by omega), uph_ne (by omega), uph_ne (by omega), uph_ne (by omega), uph_ne (by omega), uph_ne (by omega), uph_ne (by omega)]; exact ((zz 16 (by omega)).trans (hM.2.2 16 _ rfl))) (And.intro (vp_in_nI (n := 0) (by decide) (by decide)) ?_)))
  refine Exists.intro _ (And.intro (by rw [uph_ne (by omega), uph_ne (by omega), uph_ne (by omega), uph_ne (by omega)]; exact uph_eq) (Exists.intro _ (And.intro rfl ?_)))
  refine Exists.intro _ (And.intro (by rw [uph_ne (by omega), uph_ne (by omega), uph_ne (by omega), uph_ne (by omega)]; exact uph_eq) (Exists.intro _ (And.intro rfl ?_)))
  refine Exists.intro _ (Exists.intro _ (And.intro (by rw [uph_ne (by omega), uph_ne (by omega), uph_ne (by omega), uph_ne (by omega), uph_ne (by omega), uph_ne (by omega), uph_ne (by omega), uph_ne (by omega), uph_ne (by omega)]; exact ((zz 18 (by omega)).trans (hM.2.2 18 _ rfl))) (And.intro (vp_in_nI (n := 0) (by decide) (by decide)) ?_)))
  refine Exists.intro _ (And.intro (by rw [uph_ne (by omega), uph_ne (by omega), uph_ne (by omega), uph_ne (by omega), uph_ne (by omega)]; exact uph_eq) (Exists.intro _ (And.intro rfl ?_)))
  refine Exists.intro _ (And.intro (by rw [uph_ne (by omega), uph_ne (by omega), uph_ne (by omega), uph_ne (by omega), uph_ne (by omega)]; exact uph_eq) (And.intro (Nat.le_of_ble_eq_true rfl) (And.intro rfl (And.intro rfl ?_))))
  refine Exists.intro _ (And.intro uph_eq (Exists.intro _ (And.intro rfl ?_)))
  refine Exists.intro _ (And.intro uph_eq (And.intro (Nat.le_of_ble_eq_true rfl) (And.intro rfl (And.intro rfl ?_))))
  refine Exists.intro _ (And.intro uph_eq (And.intro (Nat.le_of_ble_eq_true rfl) (And.intro rfl (And.intro rfl ?_))))
  refine go_loc (lv' := [(0, .ref o)]) ⟨rfl, trivial⟩ ?_
  refine Go.of hX.2 ck_X12_read [] 160 ?_
  refine Exists.intro _ (And.intro uph_eq (Exists.intro _ (And.intro rfl ?_)))
  refine And.intro (fun cz => by first | exact absurd cz (by decide) | exact absurd (by decide) cz) (fun _ => ?_)
  refine Exists.intro _ (And.intro uph_eq (Exists.intro 0 (Exists.intro 0 (And.intro (Nat.le_of_ble_eq_true rfl) (And.intro (Nat.le_of_ble_eq_true rfl) (c_is (t := 0) (v := 0) (k5 := w + 2) hX uph_eq rfl rfl (by decide) rfl (by rw [uph_ne (by omega), uph_ne (by omega), uph_ne (by omega), uph_ne (by omega), uph_ne (by omega), uph_ne (by omega), uph_ne (by omega), uph_ne (by omega), uph_ne (by omega), uph_ne (by omega), uph_ne (by omega), uph_ne (by omega), uph_ne (by omega)]; exact hgk) ?_))))))
  rw [if_pos ⟨rfl, gk0⟩]
  refine And.intro (fun _ => ?_) (fun cz => by first | exact absurd cz (by decide) | exact absurd (by decide) cz)
  refine Exists.intro _ (And.intro uph_eq (Exists.intro _ (And.intro rfl ?_)))
  refine And.intro (fun cz => by first | exact absurd cz (by decide) | exact absurd (by decide) cz) (fun _ => ?_)
  refine Exists.intro _ (And.intro uph_eq (Exists.intro 0 (Exists.intro 0 (And.intro (Nat.le_of_ble_eq_true rfl) (And.intro (Nat.le_of_ble_eq_true rfl) (z_knows (kc := w + 18) hX uph_eq rfl rfl rfl (by rw [uph_ne (by omega), uph_ne (by omega), uph_ne (by omega)]; exact uph_eq) pk_us ?_))))))
  refine Exists.intro _ (And.intro uph_eq (Exists.intro _ (And.intro rfl ?_)))
  refine And.intro (fun _ => ?_) (fun cz => by first | exact absurd cz (by decide) | exact absurd (by decide) cz)
  refine Exists.intro _ (And.intro uph_eq (Exists.intro _ (And.intro rfl ?_)))
  refine And.intro (fun _ => ?_) (fun cz => by first | exact absurd cz (by decide) | exact absurd (by decide) cz)
  refine Exists.intro _ (And.intro uph_eq (And.intro (Nat.le_of_ble_eq_true rfl) (And.intro rfl (And.intro rfl ?_))))
  refine Exists.intro _ (And.intro uph_eq (Exists.intro _ (And.intro rfl ?_)))
  refine And.intro (fun _ => ?_) (fun cz => by first | exact absurd cz (by decide) | exact absurd (by decide) cz)
  refine Exists.intro _ (And.intro uph_eq (Exists.intro _ (And.intro rfl ?_)))
  refine And.intro (fun _ => ?_) (fun cz => by first | exact absurd cz (by decide) | exact absurd (by decide) cz)
  refine Exists.intro _ (And.intro uph_eq (Exists.intro _ (And.intro rfl ?_)))
  refine Exists.intro _ (And.intro uph_eq (And.intro (Nat.le_of_ble_eq_true rfl) (And.intro rfl (And.intro rfl ?_))))
  refine Exists.intro _ (And.intro uph_eq (Exists.intro _ (And.intro rfl ?_)))
  refine Exists.intro _ (And.intro uph_eq (Exists.intro 0 (Exists.intro 0 (And.intro (Nat.le_of_ble_eq_true rfl) (And.intro (Nat.le_of_ble_eq_true rfl) (c_comes (ks := w + 32) (ka := w + 33) (kd := w + 34) hX uph_eq rfl rfl rfl rfl (by rw [uph_ne (by omega), uph_ne (by omega), uph_ne (by omega), uph_ne (by omega), uph_ne (by omega), uph_ne (by omega), uph_ne (by omega), uph_ne (by omega), uph_ne (by omega), uph_ne (by omega), uph_ne (by omega), uph_ne (by omega), uph_ne (by omega), uph_ne (by omega), uph_ne (by omega)]; exact ((zz 32 (by omega)).trans (hM.2.2 32 _ rfl))) (by rw [uph_ne (by omega), uph_ne (by omega), uph_ne (by omega), uph_ne (by omega), uph_ne (by omega), uph_ne (by omega), uph_ne (by omega), uph_ne (by omega), uph_ne (by omega), uph_ne (by omega), uph_ne (by omega), uph_ne (by omega), uph_ne (by omega), uph_ne (by omega), uph_ne (by omega)]; exact ((zz 33 (by omega)).trans (hM.2.2 33 _ rfl))) (by rw [uph_ne (by omega), uph_ne (by omega), uph_ne (by omega), uph_ne (by omega), uph_ne (by omega), uph_ne (by omega), uph_ne (by omega), uph_ne (by omega), uph_ne (by omega), uph_ne (by omega), uph_ne (by omega), uph_ne (by omega), uph_ne (by omega), uph_ne (by omega), uph_ne (by omega)]; exact ((zz 34 (by omega)).trans (hM.2.2 34 _ rfl))) (by omega) (fun g1 g2 g3 _ _ _ => ?_)))))))
  exact And.intro rfl (hP _)
