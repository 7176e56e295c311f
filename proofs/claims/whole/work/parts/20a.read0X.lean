/-! pieces of read, and read of the empty text -/
set_option maxHeartbeats 2000000 in
theorem c_fillI {l : Launch} {G : GG} {h : AH} {nx : Nat} {Post : Option Value → AH → Nat → Prop} {q N : Nat} {f : Nat → Int32} {v : Int32} (hX : XC G ∧ TX l G) (hq : h q = some (.inl (0, N, .inl f))) (hN : N < 2 ^ 31) (hP : ∀ g : Nat → Int32, (∀ i, i < N → g i = v) → Post none (uph h q (.inl (0, N, .inl g))) nx) : Runs l G i_J7_fill_53178 0 0 [.ref q, .int v] h nx Post := by
  have loop : ∀ (j i : Nat) (g : Nat → Int32), i + j = N → (∀ a, a < i → g a = v) → Go l G 14 s_J7_fill_53178 0 0 Post 5 [(2, .int (nI i)), (3, .int (nI N)), (0, .ref q), (1, .int v)] [] (uph h q (.inl (0, N, .inl g))) nx 0 0 := by
    intro j
    induction j with
    | zero =>
      intro i g h1 h2
      refine Go.of hX.2 ck_J7_fill_53178 [5] 20 ?_
      refine And.intro (fun c1 => ?_) (fun c1 => absurd (nI_le (by omega) (by omega)) c1)
      exact hP g (fun a ha => h2 a (by omega))
    | succ j ih =>
      intro i g h1 h2
      refine Go.of hX.2 ck_J7_fill_53178 [5] 20 ?_
      refine And.intro (fun c1 => absurd c1 (nI_ge (by omega) (by omega))) (fun c1 => ?_)
      refine Exists.intro _ (Exists.intro _ (And.intro uph_eq (And.intro (vp_in_nI (by omega) (by omega)) ?_)))
      rw [uph_uph, nI_clamp (by omega)]
      refine go_loc (lv' := [(2, .int (nI i + 1)), (3, .int (nI N)), (0, .ref q), (1, .int v)]) ⟨rfl, rfl, rfl, rfl, trivial⟩ ?_
      rw [← nI_succ]
      refine ih (i + 1) _ (by omega) (fun a ha => ?_)
      by_cases e : a = i
      · rw [e]; exact pk_us
      · rw [pk_un e]; exact h2 a (by omega)
  refine en_J7_fill_53178 hX [5] 20 rfl ?_
  refine Exists.intro _ (Exists.intro _ (And.intro hq (And.intro (by decide) ?_)))
  rw [← uph_self hq]
  exact go_loc (lv' := [(2, .int (nI 0)), (3, .int (nI N)), (0, .ref q), (1, .int v)]) ⟨rfl, rfl, rfl, rfl, trivial⟩ (loop N 0 f (Nat.zero_add _) (fun a ha => absurd ha (Nat.not_lt_zero a)))
set_option maxHeartbeats 2000000 in
theorem c_fillL {l : Launch} {G : GG} {h : AH} {nx : Nat} {Post : Option Value → AH → Nat → Prop} {q N : Nat} {f : Nat → Int64} {v : Int64} (hX : XC G ∧ TX l G) (hq : h q = some (.inl (1, N, .inr (.inl f)))) (hN : N < 2 ^ 31) (hP : ∀ g : Nat → Int64, (∀ i, i < N → g i = v) → Post none (uph h q (.inl (1, N, .inr (.inl g)))) nx) : Runs l G i_J7_fill_d0a16 0 0 [.ref q, .long v] h nx Post := by
  have loop : ∀ (j i : Nat) (g : Nat → Int64), i + j = N → (∀ a, a < i → g a = v) → Go l G 14 s_J7_fill_d0a16 0 0 Post 6 [(3, .int (nI i)), (4, .int (nI N)), (0, .ref q), (1, .long v)] [] (uph h q (.inl (1, N, .inr (.inl g)))) nx 0 0 := by
    intro j
    induction j with
    | zero =>
      intro i g h1 h2
      refine Go.of hX.2 ck_J7_fill_d0a16 [6] 20 ?_
      refine And.intro (fun c1 => ?_) (fun c1 => absurd (nI_le (by omega) (by omega)) c1)
      exact hP g (fun a ha => h2 a (by omega))
    | succ j ih =>
      intro i g h1 h2
      refine Go.of hX.2 ck_J7_fill_d0a16 [6] 20 ?_
      refine And.intro (fun c1 => absurd c1 (nI_ge (by omega) (by omega))) (fun c1 => ?_)
      refine Exists.intro _ (Exists.intro _ (And.intro uph_eq (And.intro (vp_in_nI (by omega) (by omega)) ?_)))
      rw [uph_uph, nI_clamp (by omega)]
      refine go_loc (lv' := [(3, .int (nI i + 1)), (4, .int (nI N)), (0, .ref q), (1, .long v)]) ⟨rfl, rfl, rfl, rfl, trivial⟩ ?_
      rw [← nI_succ]
      refine ih (i + 1) _ (by omega) (fun a ha => ?_)
      by_cases e : a = i
      · rw [e]; exact if_pos rfl
      · rw [show vp_updL g i v a = g a from if_neg e]; exact h2 a (by omega)
  refine en_J7_fill_d0a16 hX [6] 20 rfl ?_
  refine Exists.intro _ (Exists.intro _ (And.intro hq (And.intro (by decide) ?_)))
  rw [← uph_self hq]
  exact go_loc (lv' := [(3, .int (nI 0)), (4, .int (nI N)), (0, .ref q), (1, .long v)]) ⟨rfl, rfl, rfl, rfl, trivial⟩ (loop N 0 f (Nat.zero_add _) (fun a ha => absurd ha (Nat.not_lt_zero a)))
def fgF (fs : List Value) : List Value := (((((((((fs.set 6 (.int 0)).set 7 (.int 0)).set 8 (.int 0)).set 13 (.int 0)).set 14 (.int 0)).set 15 (.int 0)).set 16 (.int 0)).set 17 (.int 0)).set 18 (.int 0)).set 19 (.int 0)
set_option maxHeartbeats 2000000 in
theorem c_forgetText {l : Launch} {G : GG} {h : AH} {nx : Nat} {Post : Option Value → AH → Nat → Prop} {r : Nat} {fs : List Value} (hX : XC G ∧ TX l G) (hr : h r = some (.inr (6, fs))) (hl : fs.length = 20) (hP : Post none (uph h r (.inr (6, fgF fs))) nx) : Runs l G i_X6_forgetText 0 0 [.ref r] h nx Post := by
  refine en_X6_forgetText hX [] 80 rfl ?_
  refine Exists.intro _ (And.intro hr (And.intro (by first | omega | (simp only [List.length_set]; omega)) (And.intro rfl (And.intro rfl ?_))))
  refine Exists.intro _ (And.intro uph_eq (And.intro (by first | omega | (simp only [List.length_set]; omega)) (And.intro rfl (And.intro rfl ?_))))
  refine Exists.intro _ (And.intro uph_eq (And.intro (by first | omega | (simp only [List.length_set]; omega)) (And.intro rfl (And.intro rfl ?_))))
  refine Exists.intro _ (And.intro uph_eq (And.intro (by first | omega | (simp only [List.length_set]; omega)) (And.intro rfl (And.intro rfl ?_))))
  refine Exists.intro _ (And.intro uph_eq (And.intro (by first | omega | (simp only [List.length_set]; omega)) (And.intro rfl (And.intro rfl ?_))))
  refine Exists.intro _ (And.intro uph_eq (And.intro (by first | omega | (simp only [List.length_set]; omega)) (And.intro rfl (And.intro rfl ?_))))
  refine Exists.intro _ (And.intro uph_eq (And.intro (by first | omega | (simp only [List.length_set]; omega)) (And.intro rfl (And.intro rfl ?_))))
  refine Exists.intro _ (And.intro uph_eq (And.intro (by first | omega | (simp only [List.length_set]; omega)) (And.intro rfl (And.intro rfl ?_))))
  refine Exists.intro _ (And.intro uph_eq (And.intro (by first | omega | (simp only [List.length_set]; omega)) (And.intro rfl (And.intro rfl ?_))))
  refine Exists.intro _ (And.intro uph_eq (And.intro (by first | omega | (simp only [List.length_set]; omega)) (And.intro rfl (And.intro rfl ?_))))
  simp only [uph_uph]
  exact hP
def ttF (fs : List Value) (q : Nat) (n : Int32) : List Value := ((fs.set 1 (.ref q)).set 2 (.int n)).set 3 (.int 0)
set_option maxHeartbeats 2000000 in
theorem c_takeText {l : Launch} {G : GG} {h : AH} {nx : Nat} {Post : Option Value → AH → Nat → Prop} {k q N : Nat} {n : Int32} {f : Nat → Int32} {fs : List Value} (hX : XC G ∧ TX l G) (hk : h k = some (.inr (8, fs))) (hl : fs.length = 7) (hq : h q = some (.inl (2, N, .inl f))) (hP : Post none (uph h k (.inr (8, ttF fs q (if nI N < n then nI N else n)))) nx) : Runs l G i_X8_takeText 0 0 [.ref k, .ref q, .int n] h nx Post := by
  refine en_X8_takeText hX [] 60 rfl ?_
  have hne : q ≠ k := fun e => by rw [e, hk] at hq; cases hq
  refine Exists.intro _ (And.intro hk (And.intro (by first | omega | (simp only [List.length_set]; omega)) (And.intro rfl (And.intro rfl ?_))))
  refine Exists.intro _ (Exists.intro _ (And.intro (by rw [uph_ne hne]; exact hq) (And.intro (by decide) ?_)))
  refine And.intro rfl ?_
  refine Exists.intro _ (And.intro uph_eq (And.intro (by first | omega | (simp only [List.length_set]; omega)) (And.intro rfl (And.intro rfl ?_))))
  refine Exists.intro _ (And.intro uph_eq (And.intro (by first | omega | (simp only [List.length_set]; omega)) (And.intro rfl (And.intro rfl ?_))))
  simp only [uph_uph]
  exact hP
def teF (fs : List Value) (a : Int32) : List Value := ((fs.set 5 (.int a)).set 6 (.long 0)).set 4 (.int 0)
set_option maxHeartbeats 2000000 in
theorem c_takeEnd {l : Launch} {G : GG} {h : AH} {nx : Nat} {Post : Option Value → AH → Nat → Prop} {k : Nat} {a n : Int32} {fs : List Value} (hX : XC G ∧ TX l G) (hk : h k = some (.inr (8, fs))) (hl : fs.length = 7) (f2 : fs[2]? = some (.int n)) (f3 : fs[3]? = some (.int a)) (hge : n ≤ a) (hP : Post none (uph h k (.inr (8, teF fs a))) nx) : Runs l G i_X8_takeToken 0 0 [.ref k] h nx Post := by
  refine en_X8_takeToken hX [] 80 rfl ?_
  refine Exists.intro _ (And.intro hk (Exists.intro _ (And.intro f3 ?_)))
  refine Exists.intro _ (And.intro hk (Exists.intro _ (And.intro f2 ?_)))
  refine And.intro (fun _ => ?_) (fun cz => absurd hge cz)
  refine Exists.intro _ (And.intro hk (Exists.intro _ (And.intro f3 ?_)))
  refine Exists.intro _ (And.intro hk (And.intro (by first | omega | (simp only [List.length_set]; omega)) (And.intro rfl (And.intro rfl ?_))))
  refine Exists.intro _ (And.intro uph_eq (And.intro (by first | omega | (simp only [List.length_set]; omega)) (And.intro rfl (And.intro rfl ?_))))
  refine Exists.intro _ (And.intro uph_eq (Exists.intro _ (And.intro (by rw [get_set_ne (by decide), get_set_ne (by decide)]; exact f3) ?_)))
  refine Exists.intro _ (And.intro uph_eq (Exists.intro _ (And.intro (by rw [get_set_ne (by decide), get_set_ne (by decide)]; exact f2) ?_)))
  refine And.intro (fun cz => absurd cz (Int32.not_lt.mpr hge)) (fun _ => ?_)
  refine Exists.intro _ (And.intro uph_eq (And.intro (by first | omega | (simp only [List.length_set]; omega)) (And.intro rfl (And.intro rfl ?_))))
  simp only [uph_uph]
  exact hP
set_option maxHeartbeats 2000000 in
theorem z_judgeNames {l : Launch} {G : GG} {h : AH} {nx : Nat} {Post : Option Value → AH → Nat → Prop} {r : Nat} {fs : List Value} (hX : XC G ∧ TX l G) (hr : h r = some (.inr (6, fs))) (f6 : fs[6]? = some (.int 0)) (hP : Post (some (.int 0)) h nx) : Runs l G i_X6_judgeNames 0 0 [.ref r] h nx Post := by
  refine en_X6_judgeNames hX [] 60 rfl ?_
  refine Exists.intro _ (And.intro hr (Exists.intro _ (And.intro f6 ?_)))
  refine And.intro (fun _ => ?_) (fun cz => by first | exact absurd cz (by decide) | exact absurd (by decide) cz)
  exact And.intro rfl hP
set_option maxHeartbeats 2000000 in
theorem z_judge {l : Launch} {G : GG} {h : AH} {nx : Nat} {Post : Option Value → AH → Nat → Prop} {r k q N : Nat} {f : Nat → Int32} {fs gs : List Value} (hX : XC G ∧ TX l G) (hr : h r = some (.inr (6, fs))) (hl : fs.length = 20) (f0 : fs[0]? = some (.ref k)) (hk : h k = some (.inr (8, gs))) (gl : gs.length = 7) (hq : h q = some (.inl (2, N, .inl f))) (hN : N < 2 ^ 31) (hP : ∀ (h1 : AH) (gs1 : List Value), h1 r = some (.inr (6, (fgF fs).set 9 (.int 0))) → h1 k = some (.inr (8, gs1)) → gs1.length = 7 → gs1[0]? = gs[0]? → (∀ a, a ≠ r → a ≠ k → h1 a = h a) → Post (some (.int 0)) h1 nx) : Runs l G i_X6_judge 0 0 [.ref r, .ref q, .int 0] h nx Post := by
  have hne : k ≠ r := fun e => by rw [e, hr] at hk; cases hk
  have hqr : q ≠ r := fun e => by rw [e, hr] at hq; cases hq
  have hqk : q ≠ k := fun e => by rw [e, hk] at hq; cases hq
  have e0 : (fgF fs)[0]? = some (.ref k) := by unfold fgF; simp [List.getElem?_set, f0]
  have e6 : ((fgF fs).set 9 (.int 0))[6]? = some (.int 0) := by unfold fgF; simp [List.getElem?_set, hl]
  have e7 : ((fgF fs).set 9 (.int 0))[7]? = some (.int 0) := by unfold fgF; simp [List.getElem?_set, hl]
  have e00 : ((fgF fs).set 9 (.int 0))[0]? = some (.ref k) := by rw [get_set_ne (by decide)]; exact e0
  have el : (fgF fs).length = 20 := by unfold fgF; simp only [List.length_set]; exact hl
  have hmin : (if nI N < (0 : Int32) then nI N else 0) = 0 := if_neg (nI_pos hN)
  have t2 : (ttF gs q 0)[2]? = some (.int 0) := by unfold ttF; rw [get_set_ne (by decide)]; exact get_set (by rw [List.length_set]; omega)
  have t3 : (ttF gs q 0)[3]? = some (.int 0) := by unfold ttF; exact get_set (by simp only [List.length_set]; omega)
  have tl : (ttF gs q 0).length = 7 := by unfold ttF; simp only [List.length_set]; exact gl
  refine en_X6_judge hX [] 120 rfl ?_
  refine Exists.intro _ (And.intro hr (Exists.intro 0 (Exists.intro 0 (And.intro (Nat.le_of_ble_eq_true rfl) (And.intro (Nat.le_of_ble_eq_true rfl) (c_forgetText hX hr hl ?_))))))
  refine Exists.intro _ (And.intro uph_eq (Exists.intro _ (And.intro e0 ?_)))
  refine Exists.intro _ (And.intro (by rw [uph_ne hne]; exact hk) (Exists.intro 0 (Exists.intro 0 (And.intro (Nat.le_of_ble_eq_true rfl) (And.intro (Nat.le_of_ble_eq_true rfl) (c_takeText hX (by rw [uph_ne hne]; exact hk) gl (by rw [uph_ne hqr]; exact hq) ?_))))))
  rw [hmin]
  refine And.intro (fun cz => by first | exact absurd cz (by decide) | exact absurd (by decide) cz) (fun _ => ?_)
  refine Exists.intro _ (And.intro (by rw [uph_ne (Ne.symm hne)]; exact uph_eq) (Exists.intro _ (And.intro e0 ?_)))
  refine Exists.intro _ (And.intro uph_eq (Exists.intro 0 (Exists.intro 0 (And.intro (Nat.le_of_ble_eq_true rfl) (And.intro (Nat.le_of_ble_eq_true rfl) (c_takeEnd hX uph_eq tl t2 t3 (Int32.le_refl 0) ?_))))))
  rw [uph_uph]
  refine Exists.intro _ (And.intro (by rw [uph_ne (Ne.symm hne)]; exact uph_eq) (Exists.intro _ (And.intro e0 ?_)))
  refine Exists.intro _ (And.intro uph_eq (Exists.intro _ (And.intro (show (teF (ttF gs q 0) 0)[5]? = some (.int 0) from by unfold teF; rw [get_set_ne (by decide), get_set_ne (by decide)]; exact get_set (by omega)) ?_)))
  refine Exists.intro _ (And.intro (by rw [uph_ne (Ne.symm hne)]; exact uph_eq) (And.intro (by omega) (And.intro rfl (And.intro rfl ?_))))
  refine Exists.intro _ (And.intro uph_eq (Exists.intro _ (And.intro e00 ?_)))
  refine Exists.intro _ (And.intro (by rw [uph_ne hne]; exact uph_eq) (Exists.intro _ (And.intro (show (teF (ttF gs q 0) 0)[4]? = some (.int 0) from by unfold teF; exact get_set (by simp only [List.length_set]; omega)) ?_)))
  refine And.intro (fun cz => by first | exact absurd cz (by decide) | exact absurd (by decide) cz) (fun _ => ?_)
  refine Exists.intro _ (And.intro uph_eq (Exists.intro _ (And.intro e7 ?_)))
  refine And.intro (fun cz => by first | exact absurd cz (by decide) | exact absurd (by decide) cz) (fun _ => ?_)
  refine Exists.intro _ (And.intro uph_eq (Exists.intro 0 (Exists.intro 0 (And.intro (Nat.le_of_ble_eq_true rfl) (And.intro (Nat.le_of_ble_eq_true rfl) (z_judgeNames hX uph_eq e6 ?_))))))
  refine And.intro rfl (hP _ (teF (ttF gs q 0) 0) uph_eq (by rw [uph_ne hne]; exact uph_eq) (by unfold teF; simp only [List.length_set]; exact tl) ?_ (fun a h1 h2 => by rw [uph_ne h1, uph_ne h2, uph_ne h1]))
  unfold teF ttF
  simp [List.getElem?_set]
set_option maxHeartbeats 2000000 in
theorem z_drawCircuits {l : Launch} {G : GG} {h : AH} {nx : Nat} {Post : Option Value → AH → Nat → Prop} {r d : Nat} {fs : List Value} (hX : XC G ∧ TX l G) (hr : h r = some (.inr (6, fs))) (f6 : fs[6]? = some (.int 0)) (hP : Post none h nx) : Runs l G i_X6_drawCircuits 0 0 [.ref r, .ref d] h nx Post := by
  refine en_X6_drawCircuits hX [] 60 rfl ?_
  refine Exists.intro _ (And.intro hr (Exists.intro _ (And.intro f6 ?_)))
  refine And.intro (fun _ => ?_) (fun cz => by first | exact absurd cz (by decide) | exact absurd (by decide) cz)
  exact hP
set_option maxHeartbeats 2000000 in
theorem z_fillTables {l : Launch} {G : GG} {h : AH} {nx : Nat} {Post : Option Value → AH → Nat → Prop} {w : Nat} (hX : XC G ∧ TX l G)  (hP : Post none h nx) : Runs l G i_X10_fillTables 0 0 [.ref w, .int 0] h nx Post := by
  refine en_X10_fillTables hX [] 60 rfl ?_
  refine And.intro (fun _ => ?_) (fun cz => by first | exact absurd cz (by decide) | exact absurd (by decide) cz)
  exact hP
set_option maxHeartbeats 2000000 in
theorem c_circuitBits {l : Launch} {G : GG} {h : AH} {nx : Nat} {Post : Option Value → AH → Nat → Prop} {d : Nat} {a b : Int32} {fs : List Value} (hX : XC G ∧ TX l G) (hd : h d = some (.inr (0, fs))) (f1 : fs[1]? = some (.int a)) (f2 : fs[2]? = some (.int b)) (hP : Post (some (.int ((((1 : Int32) <<< (a &&& 31)) - 1) ||| ((((1 : Int32) <<< (b &&& 31)) - 1) <<< ((6 : Int32) &&& 31))))) h nx) : Runs l G i_X0_circuitBits 0 0 [.ref d] h nx Post := by
  refine en_X0_circuitBits hX [] 60 rfl ?_
  refine Exists.intro _ (And.intro hd (Exists.intro _ (And.intro f1 ?_)))
  refine Exists.intro _ (And.intro hd (Exists.intro _ (And.intro f2 ?_)))
  exact And.intro rfl hP
theorem bn_of (x : Int32) : ∃ n, n < 2 ^ 32 ∧ x = nI n := ⟨x.toBitVec.toNat, x.toBitVec.isLt, Int32.toBitVec_inj.mp (by show _ = BitVec.ofNat 32 _; simp)⟩
theorem bn_and (a b : Nat) (ha : a < 2 ^ 32) (hb : b < 2 ^ 32) : nI a &&& nI b = nI (a &&& b) := Int32.toBitVec_inj.mp (by
  rw [Int32.toBitVec_and]
  show BitVec.ofNat 32 a &&& BitVec.ofNat 32 b = BitVec.ofNat 32 (a &&& b)
  apply BitVec.eq_of_toNat_eq
  rw [BitVec.toNat_and, BitVec.toNat_ofNat, BitVec.toNat_ofNat, BitVec.toNat_ofNat, Nat.mod_eq_of_lt ha, Nat.mod_eq_of_lt hb, Nat.mod_eq_of_lt (Nat.lt_of_le_of_lt Nat.and_le_left ha)])
theorem bn_mask (x : Int32) (m : Nat) (hm : m < 2 ^ 30) : ∃ n, n ≤ m ∧ x &&& nI m = nI n := by
  obtain ⟨a, ha, rfl⟩ := bn_of x
  exact ⟨a &&& m, Nat.and_le_right, bn_and a m ha (by omega)⟩
theorem vp_mask (x : Int32) (m : Nat) (hm : m < 2 ^ 30) : vp_in (x &&& nI m) (m + 1) := by
  obtain ⟨n, hn, e⟩ := bn_mask x m hm
  rw [e]
  exact vp_in_nI (by omega) (by omega)
set_option maxHeartbeats 2000000 in
theorem c_contactsAt {l : Launch} {G : GG} {h : AH} {nx : Nat} {Post : Option Value → AH → Nat → Prop} {w qi qr : Nat} {x : Int32} {fi fr : Nat → Int64} {fs : List Value} (hX : XC G ∧ TX l G) (hw : h w = some (.inr (10, fs))) (f10 : fs[10]? = some (.ref qi)) (f11 : fs[11]? = some (.ref qr)) (hi : h qi = some (.inl (1, 32, .inr (.inl fi)))) (hr : h qr = some (.inl (1, 64, .inr (.inl fr)))) (hP : Post (some (.long (fi ((x >>> ((6 : Int32) &&& 31)) &&& 31).toNatClampNeg ||| fr (x &&& 63).toNatClampNeg))) h nx) : Runs l G i_X10_contactsAt 0 0 [.ref w, .int x] h nx Post := by
  refine en_X10_contactsAt hX [] 60 rfl ?_
  refine Exists.intro _ (And.intro hw (Exists.intro _ (And.intro f10 ?_)))
  refine Exists.intro _ (Exists.intro _ (And.intro hi (And.intro (vp_mask _ 31 (by decide)) ?_)))
  refine Exists.intro _ (And.intro hw (Exists.intro _ (And.intro f11 ?_)))
  refine Exists.intro _ (Exists.intro _ (And.intro hr (And.intro (vp_mask _ 63 (by decide)) ?_)))
  exact hP
theorem no_bit : ∀ c, c < 11 → ((0 : Int32) >>> (nI c &&& 31)) &&& 1 = 0 := by decide
set_option maxHeartbeats 2000000 in
theorem z_circuitsWith {l : Launch} {G : GG} {h : AH} {nx : Nat} {Post : Option Value → AH → Nat → Prop} {w : Nat} {v : Int64} {fs : List Value} (hX : XC G ∧ TX l G) (hw : h w = some (.inr (10, fs))) (f0 : fs[0]? = some (.int (nI 40))) (hP : Post (some (.int 0)) h nx) : Runs l G i_X10_circuitsWith 0 0 [.ref w, .int 0, .long v] h nx Post := by
  have loop : ∀ (k j : Nat), j + k = 11 → Go l G 10 s_X10_circuitsWith 0 0 Post 6 [(5, .int (nI j)), (4, .int 0), (0, .ref w), (1, .int 0), (2, .long v)] [] h nx 0 0 := by
    intro k
    induction k with
    | zero =>
      intro j hj
      obtain rfl : j = 11 := by omega
      refine Go.of hX.2 ck_X10_circuitsWith [6] 20 ?_
      refine And.intro (fun _ => ?_) (fun cz => by first | exact absurd cz (by decide) | exact absurd (by decide) cz)
      exact And.intro rfl hP
    | succ k ih =>
      intro j hj
      refine Go.of hX.2 ck_X10_circuitsWith [6] 60 ?_
      refine And.intro (fun c1 => absurd c1 (nI_ge (b := 11) (by omega) (by decide))) (fun _ => ?_)
      refine And.intro (fun _ => ?_) (fun cz => absurd (no_bit j (by omega)) cz)
      refine Exists.intro _ (And.intro hw (Exists.intro _ (And.intro f0 ?_)))
      refine And.intro (fun cz => by first | exact absurd cz (by decide) | exact absurd (by decide) cz) (fun _ => ?_)
      refine And.intro (fun _ => ?_) (fun cz => by first | exact absurd cz (by decide) | exact absurd (by decide) cz)
      refine And.intro (fun _ => ?_) (fun cz => by first | exact absurd cz (by decide) | exact absurd (by decide) cz)
      refine go_loc (lv' := [(5, .int (nI j + 1)), (4, .int 0), (0, .ref w), (1, .int 0), (2, .long v)]) ⟨rfl, rfl, rfl, rfl, rfl, trivial⟩ ?_
      rw [← nI_succ]
      exact ih (j + 1) (by omega)
  refine en_X10_circuitsWith hX [6] 20 rfl ?_
  exact go_loc (lv' := [(5, .int (nI 0)), (4, .int 0), (0, .ref w), (1, .int 0), (2, .long v)]) ⟨rfl, rfl, rfl, rfl, rfl, trivial⟩ (loop 11 0 rfl)
set_option maxHeartbeats 2000000 in
theorem z_complete {l : Launch} {G : GG} {h : AH} {nx : Nat} {Post : Option Value → AH → Nat → Prop} {d w qc qi qr : Nat} {f : Nat → Int32} {fi fr : Nat → Int64} {fs ws : List Value} (hX : XC G ∧ TX l G) (hd : h d = some (.inr (0, fs))) (f1 : fs[1]? = some (.int 0)) (f2 : fs[2]? = some (.int 0)) (f3 : fs[3]? = some (.int 0)) (f11 : fs[11]? = some (.ref w)) (f15 : fs[15]? = some (.ref qc)) (hw : h w = some (.inr (10, ws))) (w0 : ws[0]? = some (.int (nI 40))) (w10 : ws[10]? = some (.ref qi)) (w11 : ws[11]? = some (.ref qr)) (hi : h qi = some (.inl (1, 32, .inr (.inl fi)))) (hr : h qr = some (.inl (1, 64, .inr (.inl fr)))) (hc : h qc = some (.inl (0, 64, .inl f))) (hP : ∀ g : Nat → Int32, (∀ i, i < 64 → g i = 0) → Post none (uph h qc (.inl (0, 64, .inl g))) nx) : Runs l G i_X0_complete 0 0 [.ref d] h nx Post := by
  have n1 : d ≠ qc := fun e => by rw [e, hc] at hd; cases hd
  have n2 : w ≠ qc := fun e => by rw [e, hc] at hw; cases hw
  have n3 : qi ≠ qc := fun e => by rw [e, hc] at hi; cases hi
  have n4 : qr ≠ qc := fun e => by rw [e, hc] at hr; cases hr
  have loop : ∀ (k j : Nat) (g : Nat → Int32), j + k = 64 → (∀ a, a < j → g a = 0) → Go l G 0 s_X0_complete 0 0 Post 135 [(1, .int (nI j)), (0, .ref d)] [] (uph h qc (.inl (0, 64, .inl g))) nx 0 0 := by
    intro k
    induction k with
    | zero =>
      intro j g hj hg
      obtain rfl : j = 64 := by omega
      refine Go.of hX.2 ck_X0_complete [135] 40 ?_
      refine Exists.intro _ (And.intro (by rw [uph_ne n1]; exact hd) (Exists.intro _ (And.intro f15 ?_)))
      refine Exists.intro _ (Exists.intro _ (And.intro uph_eq (And.intro (by decide) ?_)))
      refine And.intro (fun _ => ?_) (fun cz => absurd (nI_le (Nat.le_refl 64) (by decide)) cz)
      exact hP g hg
    | succ k ih =>
      intro j g hj hg
      have hd2 : uph h qc (.inl (0, 64, .inl g)) d = some (.inr (0, fs)) := by rw [uph_ne n1]; exact hd
      have hw2 : uph h qc (.inl (0, 64, .inl g)) w = some (.inr (10, ws)) := by rw [uph_ne n2]; exact hw
      refine Go.of hX.2 ck_X0_complete [135] 60 ?_
      refine Exists.intro _ (And.intro hd2 (Exists.intro _ (And.intro f15 ?_)))
      refine Exists.intro _ (Exists.intro _ (And.intro uph_eq (And.intro (by decide) ?_)))
      refine And.intro (fun c1 => absurd c1 (nI_ge (b := 64) (by omega) (by decide))) (fun _ => ?_)
      refine Exists.intro _ (And.intro hd2 (Exists.intro _ (And.intro f15 ?_)))
      refine Exists.intro _ (And.intro hd2 (Exists.intro _ (And.intro f11 ?_)))
      refine Exists.intro _ (And.intro hd2 (Exists.intro 0 (Exists.intro 0 (And.intro (Nat.le_of_ble_eq_true rfl) (And.intro (Nat.le_of_ble_eq_true rfl) (c_circuitBits hX hd2 f1 f2 ?_))))))
      refine Exists.intro _ (And.intro hd2 (Exists.intro _ (And.intro f11 ?_)))
      refine Exists.intro _ (And.intro hw2 (Exists.intro 0 (Exists.intro 0 (And.intro (Nat.le_of_ble_eq_true rfl) (And.intro (Nat.le_of_ble_eq_true rfl) (c_contactsAt hX hw2 w10 w11 (by rw [uph_ne n3]; exact hi) (by rw [uph_ne n4]; exact hr) ?_))))))
      rw [show ((((1 : Int32) <<< ((0 : Int32) &&& 31)) - 1) ||| ((((1 : Int32) <<< ((0 : Int32) &&& 31)) - 1) <<< ((6 : Int32) &&& 31))) = 0 from by decide]
      refine Exists.intro _ (And.intro hw2 (Exists.intro 0 (Exists.intro 0 (And.intro (Nat.le_of_ble_eq_true rfl) (And.intro (Nat.le_of_ble_eq_true rfl) (z_circuitsWith hX hw2 w0 ?_))))))
      refine Exists.intro _ (Exists.intro _ (And.intro uph_eq (And.intro (vp_in_nI (by omega) (by decide)) ?_)))
      rw [uph_uph, nI_clamp (by omega)]
      refine go_loc (lv' := [(1, .int (nI j + 1)), (0, .ref d)]) ⟨rfl, rfl, trivial⟩ ?_
      rw [← nI_succ]
      refine ih (j + 1) _ (by omega) (fun a ha => ?_)
      by_cases e : a = j
      · rw [e]; exact pk_us
      · rw [pk_un e]; exact hg a (by omega)
  refine en_X0_complete hX [135] 80 rfl ?_
  refine Exists.intro _ (And.intro hd (Exists.intro _ (And.intro f3 ?_)))
  refine And.intro (fun _ => ?_) (fun cz => by first | exact absurd cz (by decide) | exact absurd (by decide) cz)
  refine Exists.intro _ (And.intro hd (Exists.intro _ (And.intro f1 ?_)))
  refine And.intro (fun _ => ?_) (fun cz => by first | exact absurd cz (by decide) | exact absurd (by decide) cz)
  refine Exists.intro _ (And.intro hd (Exists.intro _ (And.intro f11 ?_)))
  refine Exists.intro _ (And.intro hd (Exists.intro _ (And.intro f3 ?_)))
  refine Exists.intro _ (And.intro hw (Exists.intro 0 (Exists.intro 0 (And.intro (Nat.le_of_ble_eq_true rfl) (And.intro (Nat.le_of_ble_eq_true rfl) (z_fillTables hX ?_))))))
  rw [← uph_self hc]
  exact go_loc (lv' := [(1, .int (nI 0)), (0, .ref d)]) ⟨rfl, rfl, trivial⟩ (loop 64 0 f rfl (fun a ha => absurd ha (Nat.not_lt_zero a)))
set_option maxHeartbeats 2000000 in
theorem z_drawNevers {l : Launch} {G : GG} {h : AH} {nx : Nat} {Post : Option Value → AH → Nat → Prop} {r d : Nat} {fs : List Value} (hX : XC G ∧ TX l G) (hr : h r = some (.inr (6, fs))) (hlt : r < nx) (f6 : fs[6]? = some (.int 0)) (hP : ∀ h1 : AH, (∀ a, a < nx → h1 a = h a) → Post none h1 (nx + 12)) : Runs l G i_X6_drawNevers 12 2320 [.ref r, .ref d] h nx Post := by
  refine en_X6_drawNevers hX [] 60 rfl ?_
  refine And.intro (by decide) (And.intro (Nat.le_of_ble_eq_true rfl) ?_)
  refine Exists.intro 11 (Exists.intro 2300 (And.intro (by decide) (And.intro (Nat.le_of_ble_eq_true rfl) (c_Wiring_init (N := 400) (Nat.le_refl _) hX uph_eq (Nat.lt_succ_self _) (fun h2 z1 _ _ _ _ _ _ _ _ _ _ _ _ => ?_)))))
  refine Exists.intro _ (And.intro (by rw [z1 _ (by omega) (by omega), uph_ne (by omega)]; exact hr) (Exists.intro _ (And.intro f6 ?_)))
  refine And.intro (fun _ => ?_) (fun cz => by first | exact absurd cz (by decide) | exact absurd (by decide) cz)
  exact hP h2 (fun a ha => by rw [z1 _ (by omega) (by omega), uph_ne (by omega)])
set_option maxHeartbeats 2000000 in
theorem z_draw {l : Launch} {G : GG} {h : AH} {nx : Nat} {Post : Option Value → AH → Nat → Prop} {r : Nat} {fs : List Value} (hX : XC G ∧ TX l G) (hr : h r = some (.inr (6, fs))) (hlt : r < nx) (f6 : fs[6]? = some (.int 0)) (f13 : fs[13]? = some (.int 0)) (f14 : fs[14]? = some (.int 0)) (hP : ∀ (h1 : AH) (vs : List Value), (∀ a, a < nx → h1 a = h a) → h1 nx = some (.inr (0, vs)) → Post (some (.ref nx)) h1 (nx + 41)) : Runs l G i_X6_draw 41 11400 [.ref r] h nx Post := by
  refine en_X6_draw hX [] 80 rfl ?_
  refine And.intro (by decide) (And.intro (Nat.le_of_ble_eq_true rfl) ?_)
  refine Exists.intro _ (And.intro (by rw [uph_ne (by omega)]; exact hr) (Exists.intro _ (And.intro f14 ?_)))
  refine Exists.intro 28 (Exists.intro 9000 (And.intro (by decide) (And.intro (Nat.le_of_ble_eq_true rfl) (c_Drawing_init (I := 0) (W := 64) (by decide) (by omega) hX uph_eq (Nat.lt_succ_self _) (fun h2 z1 y0 y1 y2 y3 y4 y5 y6 y7 y8 y9 y10 y11 y12 y13 y14 y15 y16 y17 y18 y19 y20 y21 y22 y23 y24 y25 y26 y27 y28 => ?_)))))
  have hr2 : h2 r = some (.inr (6, fs)) := by rw [z1 _ (by omega) (by omega), uph_ne (by omega)]; exact hr
  refine Exists.intro _ (And.intro hr2 (Exists.intro _ (And.intro f13 ?_)))
  refine And.intro (fun _ => ?_) (fun cz => by first | exact absurd cz (by decide) | exact absurd (by decide) cz)
  refine Exists.intro _ (And.intro hr2 (Exists.intro 0 (Exists.intro 0 (And.intro (Nat.le_of_ble_eq_true rfl) (And.intro (Nat.le_of_ble_eq_true rfl) (z_drawCircuits hX hr2 f6 ?_))))))
  refine Exists.intro _ (And.intro y0 (Exists.intro 0 (Exists.intro 0 (And.intro (Nat.le_of_ble_eq_true rfl) (And.intro (Nat.le_of_ble_eq_true rfl) (z_complete hX y0 rfl rfl rfl rfl rfl y6 rfl rfl rfl y11 y12 y27 (fun g hg => ?_)))))))
  have hr3 : uph h2 (nx + 1 + 26) (.inl (0, 64, .inl g)) r = some (.inr (6, fs)) := by rw [uph_ne (by omega)]; exact hr2
  refine Exists.intro _ (And.intro hr3 (Exists.intro 12 (Exists.intro 2320 (And.intro (by decide) (And.intro (Nat.le_of_ble_eq_true rfl) (z_drawNevers hX hr3 (by omega) f6 (fun h4 z4 => ?_)))))))
  exact hP h4 _ (fun a ha => by rw [z4 _ (by omega), uph_ne (by omega), z1 _ (by omega) (by omega), uph_ne (by omega)]) (by rw [z4 _ (by omega), uph_ne (by omega)]; exact y0)
def tdF (fs : List Value) (d : Nat) : List Value := ((((fs.set 0 (.ref d)).set 1 (.int 0)).set 2 (.int 0)).set 3 (.long 0)).set 4 (.int 0)
set_option maxHeartbeats 2000000 in
theorem c_takeDrawing {l : Launch} {G : GG} {h : AH} {nx : Nat} {Post : Option Value → AH → Nat → Prop} {w d qa qw : Nat} {fa fw : Nat → Int32} {fs : List Value} (hX : XC G ∧ TX l G) (hw : h w = some (.inr (2, fs))) (hl : fs.length = 7) (f5 : fs[5]? = some (.ref qa)) (f6 : fs[6]? = some (.ref qw)) (ha : h qa = some (.inl (0, 6, .inl fa))) (hb : h qw = some (.inl (0, 6, .inl fw))) (hne : qw ≠ qa) (hP : ∀ ga gw : Nat → Int32, (∀ i, i < 6 → ga i = 0) → (∀ i, i < 6 → gw i = 0) → Post none (uph (uph (uph h w (.inr (2, tdF fs d))) qa (.inl (0, 6, .inl ga))) qw (.inl (0, 6, .inl gw))) nx) : Runs l G i_X2_takeDrawing 0 0 [.ref w, .ref d] h nx Post := by
  have n1 : qa ≠ w := fun e => by rw [e, hw] at ha; cases ha
  have n2 : qw ≠ w := fun e => by rw [e, hw] at hb; cases hb
  have e5 : (tdF fs d)[5]? = some (.ref qa) := by unfold tdF; simp [List.getElem?_set, f5]
  have e6 : (tdF fs d)[6]? = some (.ref qw) := by unfold tdF; simp [List.getElem?_set, f6]
  refine en_X2_takeDrawing hX [] 60 rfl ?_
  refine Exists.intro _ (And.intro hw (And.intro (by first | omega | (simp only [List.length_set]; omega)) (And.intro rfl (And.intro rfl ?_))))
  refine Exists.intro _ (And.intro uph_eq (And.intro (by first | omega | (simp only [List.length_set]; omega)) (And.intro rfl (And.intro rfl ?_))))
  refine Exists.intro _ (And.intro uph_eq (And.intro (by first | omega | (simp only [List.length_set]; omega)) (And.intro rfl (And.intro rfl ?_))))
  refine Exists.intro _ (And.intro uph_eq (And.intro (by first | omega | (simp only [List.length_set]; omega)) (And.intro rfl (And.intro rfl ?_))))
  refine Exists.intro _ (And.intro uph_eq (And.intro (by first | omega | (simp only [List.length_set]; omega)) (And.intro rfl (And.intro rfl ?_))))
  refine Exists.intro _ (And.intro uph_eq (Exists.intro _ (And.intro e5 ?_)))
  simp only [uph_uph]
  refine Exists.intro 0 (Exists.intro 0 (And.intro (Nat.le_of_ble_eq_true rfl) (And.intro (Nat.le_of_ble_eq_true rfl) (c_fillI (v := 0) (f := fa) (N := 6) hX (by rw [uph_ne n1]; exact ha) (by decide) (fun ga za => ?_)))))
  refine Exists.intro _ (And.intro (by rw [uph_ne (Ne.symm n1)]; exact uph_eq) (Exists.intro _ (And.intro e6 ?_)))
  refine Exists.intro 0 (Exists.intro 0 (And.intro (Nat.le_of_ble_eq_true rfl) (And.intro (Nat.le_of_ble_eq_true rfl) (c_fillI (v := 0) (f := fw) (N := 6) hX (by rw [uph_ne hne, uph_ne n2]; exact hb) (by decide) (fun gw zw => ?_)))))
  exact hP ga gw za zw
