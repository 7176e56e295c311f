/-! x's search: its rows -/
theorem xb_blk {on a b : Nat} (ha : a < 64) (hb : b < 64) : (64 * on + a) ^^^ b = 64 * on + (a ^^^ b) := by
  apply Nat.eq_of_testBit_eq
  intro i
  have hx : a ^^^ b < 2 ^ 6 := Nat.xor_lt_two_pow (n := 6) ha hb
  rw [Nat.testBit_xor, show (64 : Nat) = 2 ^ 6 from rfl, Nat.testBit_two_pow_mul_add _ (show a < 2 ^ 6 from ha), Nat.testBit_two_pow_mul_add _ hx]
  by_cases h : i < 6
  · rw [if_pos h, if_pos h, Nat.testBit_xor]
  · rw [if_neg h, if_neg h, tb_lt (k := 6) hb (by omega), Bool.xor_false]
theorem low_bit : ∀ x, x < 64 → x ≠ 0 → ∃ r, r < 6 ∧ x.testBit r = true ∧ nI x &&& -(nI x) = nI (2 ^ r) := by decide +kernel
theorem i2b_s : ∀ s, s < 64 → (nI s).toInt8.toInt32 = nI s ∧ vp_nar (TY 2) (nI s) = nI s := by decide +kernel
/-- a heap that differs from h in the search's four rows alone -/
def SH (h h1 : AH) (qs qw ql qe : Nat) (gm gw gl ge : Nat → Int32) : Prop := (∀ a, a ≠ qs → a ≠ qw → a ≠ ql → a ≠ qe → h1 a = h a) ∧ h1 qs = some (.inl (2, 2048, .inl gm)) ∧ h1 qw = some (.inl (0, 64, .inl gw)) ∧ h1 ql = some (.inl (0, 64, .inl gl)) ∧ h1 qe = some (.inl (0, 64, .inl ge))
def DQ (qs qw ql qe : Nat) : Prop := qs ≠ qw ∧ qs ≠ ql ∧ qs ≠ qe ∧ qw ≠ ql ∧ qw ≠ qe ∧ ql ≠ qe
section SHS
variable {h h1 : AH} {qs qw ql qe : Nat} {gm gw gl ge g : Nat → Int32}
theorem SH.s (hq : DQ qs qw ql qe) (H : SH h h1 qs qw ql qe gm gw gl ge) : SH h (uph h1 qs (.inl (2, 2048, .inl g))) qs qw ql qe g gw gl ge := by
  obtain ⟨a1, a2, a3, a4, a5⟩ := H
  obtain ⟨n1, n2, n3, n4, n5, n6⟩ := hq
  exact ⟨fun a x1 x2 x3 x4 => (uph_ne x1).trans (a1 a x1 x2 x3 x4), uph_eq, (uph_ne n1.symm).trans a3, (uph_ne n2.symm).trans a4, (uph_ne n3.symm).trans a5⟩
theorem SH.w (hq : DQ qs qw ql qe) (H : SH h h1 qs qw ql qe gm gw gl ge) : SH h (uph h1 qw (.inl (0, 64, .inl g))) qs qw ql qe gm g gl ge := by
  obtain ⟨a1, a2, a3, a4, a5⟩ := H
  obtain ⟨n1, n2, n3, n4, n5, n6⟩ := hq
  exact ⟨fun a x1 x2 x3 x4 => (uph_ne x2).trans (a1 a x1 x2 x3 x4), (uph_ne n1).trans a2, uph_eq, (uph_ne n4.symm).trans a4, (uph_ne n5.symm).trans a5⟩
theorem SH.l (hq : DQ qs qw ql qe) (H : SH h h1 qs qw ql qe gm gw gl ge) : SH h (uph h1 ql (.inl (0, 64, .inl g))) qs qw ql qe gm gw g ge := by
  obtain ⟨a1, a2, a3, a4, a5⟩ := H
  obtain ⟨n1, n2, n3, n4, n5, n6⟩ := hq
  exact ⟨fun a x1 x2 x3 x4 => (uph_ne x3).trans (a1 a x1 x2 x3 x4), (uph_ne n2).trans a2, (uph_ne n4).trans a3, uph_eq, (uph_ne n6.symm).trans a5⟩
theorem SH.e (hq : DQ qs qw ql qe) (H : SH h h1 qs qw ql qe gm gw gl ge) : SH h (uph h1 qe (.inl (0, 64, .inl g))) qs qw ql qe gm gw gl g := by
  obtain ⟨a1, a2, a3, a4, a5⟩ := H
  obtain ⟨n1, n2, n3, n4, n5, n6⟩ := hq
  exact ⟨fun a x1 x2 x3 x4 => (uph_ne x4).trans (a1 a x1 x2 x3 x4), (uph_ne n3).trans a2, (uph_ne n5).trans a3, (uph_ne n6).trans a4, uph_eq⟩
end SHS
set_option maxHeartbeats 4000000 in
theorem c_join {l : Launch} {G : GG} {h : AH} {nx : Nat} {Post : Option Value → AH → Nat → Prop} {h0 : AH} {u qs qw ql qe : Nat} {gm gw gl ge : Nat → Int32} {f3 : List Value} {d : Nat} {f : Int32} (hX : XC G ∧ TX l G) (hu : h u = some (.inr (3, f3))) (u12 : f3[12]? = some (.ref qs)) (u13 : f3[13]? = some (.ref qw)) (u14 : f3[14]? = some (.ref ql)) (u15 : f3[15]? = some (.ref qe)) (hq : DQ qs qw ql qe) (nu : u ≠ qs ∧ u ≠ qw ∧ u ≠ ql ∧ u ≠ qe) (H : SH h0 h qs qw ql qe gm gw gl ge) (hd : d < 64) (hP : ∀ (h1 : AH) (gl1 ge1 : Nat → Int32), SH h0 h1 qs qw ql qe gm gw gl1 ge1 → (∀ n, gl d = nI n → gl1 d = nI (jL (ge d) f n)) → ge1 d = jE (ge d) f → (∀ i, i ≠ d → gl1 i = gl i ∧ ge1 i = ge i) → Post none h1 nx) : Runs l G i_X3_join 0 0 [.ref u, .int (nI d), .int f] h nx Post := by
  have H0 := H
  obtain ⟨a1, a2, a3, a4, a5⟩ := H
  obtain ⟨n1, n2, n3, n4⟩ := nu
  have yes : jC (ge d) f → Post none (uph h qe (.inl (0, 64, .inl (upd ge d f)))) nx := fun hc => hP _ gl (upd ge d f) (H0.e hq) (fun n hn => by rw [hn]; unfold jL; rw [if_pos hc]) (by rw [show upd ge d f d = f from pk_us]; unfold jE; rw [if_pos hc]) (fun i hi => ⟨rfl, pk_un hi⟩)
  have no : ¬ jC (ge d) f → Post none (uph (uph h qe (.inl (0, 64, .inl (upd ge d (-2))))) ql (.inl (0, 64, .inl (upd gl d 0)))) nx := fun hc => hP _ (upd gl d 0) (upd ge d (-2)) ((H0.e hq).l hq) (fun n _ => by rw [show upd gl d 0 d = 0 from pk_us]; unfold jL; rw [if_neg hc]; rfl) (by rw [show upd ge d (-2) d = -2 from pk_us]; unfold jE; rw [if_neg hc]) (fun i hi => ⟨pk_un hi, pk_un hi⟩)
  have bad : ¬ jC (ge d) f → Go l G 3 s_X3_join 0 0 Post 34 [(0, .ref u), (1, .int (nI d)), (2, .int f)] [] h nx 0 0 := by
    intro hc
    refine Go.of hX.2 ck_X3_join [] 30 ?_
    refine Exists.intro _ (And.intro hu (Exists.intro _ (And.intro u15 ?_)))
    refine Exists.intro _ (Exists.intro _ (And.intro a5 (And.intro (vp_in_nI hd (by decide)) ?_)))
    rw [nI_clamp (by omega)]
    refine Exists.intro _ (And.intro (by rw [uph_ne n4]; exact hu) (Exists.intro _ (And.intro u14 ?_)))
    refine Exists.intro _ (Exists.intro _ (And.intro (by rw [uph_ne hq.2.2.2.2.2]; exact a4) (And.intro (vp_in_nI hd (by decide)) ?_)))
    rw [nI_clamp (by omega)]
    exact no hc
  have good : jC (ge d) f → Go l G 3 s_X3_join 0 0 Post 24 [(0, .ref u), (1, .int (nI d)), (2, .int f)] [] h nx 0 0 := by
    intro hc
    refine Go.of hX.2 ck_X3_join [] 30 ?_
    refine Exists.intro _ (And.intro hu (Exists.intro _ (And.intro u15 ?_)))
    refine Exists.intro _ (Exists.intro _ (And.intro a5 (And.intro (vp_in_nI hd (by decide)) ?_)))
    rw [nI_clamp (by omega)]
    exact yes hc
  refine en_X3_join hX [24, 34] 40 rfl ?_
  refine And.intro (fun c1 => ?_) (fun c1 => ?_)
  · exact go_loc (lv' := [(0, .ref u), (1, .int (nI d)), (2, .int f)]) ⟨rfl, rfl, rfl, trivial⟩ (bad (fun z => z.1 c1))
  · refine Exists.intro _ (And.intro hu (Exists.intro _ (And.intro u15 ?_)))
    refine Exists.intro _ (Exists.intro _ (And.intro a5 (And.intro (vp_in_nI hd (by decide)) ?_)))
    rw [nI_clamp (by omega)]
    refine And.intro (fun c2 => ?_) (fun c2 => ?_)
    · exact go_loc (lv' := [(0, .ref u), (1, .int (nI d)), (2, .int f)]) ⟨rfl, rfl, rfl, trivial⟩ (good ⟨c1, Or.inl c2⟩)
    · refine Exists.intro _ (And.intro hu (Exists.intro _ (And.intro u15 ?_)))
      refine Exists.intro _ (Exists.intro _ (And.intro a5 (And.intro (vp_in_nI hd (by decide)) ?_)))
      rw [nI_clamp (by omega)]
      refine And.intro (fun c3 => ?_) (fun c3 => ?_)
      · exact go_loc (lv' := [(0, .ref u), (1, .int (nI d)), (2, .int f)]) ⟨rfl, rfl, rfl, trivial⟩ (bad (fun z => z.2.elim c2 c3))
      · exact go_loc (lv' := [(0, .ref u), (1, .int (nI d)), (2, .int f)]) ⟨rfl, rfl, rfl, trivial⟩ (good ⟨c1, Or.inr c3⟩)
set_option maxHeartbeats 4000000 in
theorem c_enter {l : Launch} {G : GG} {h : AH} {nx : Nat} {Post : Option Value → AH → Nat → Prop} {h0 : AH} {u qs qw ql qe : Nat} {gm gw gl ge : Nat → Int32} {f3 : List Value} {d w mv : Nat} (hX : XC G ∧ TX l G) (hu : h u = some (.inr (3, f3))) (u12 : f3[12]? = some (.ref qs)) (u13 : f3[13]? = some (.ref qw)) (u14 : f3[14]? = some (.ref ql)) (u15 : f3[15]? = some (.ref qe)) (hq : DQ qs qw ql qe) (nu : u ≠ qs ∧ u ≠ qw ∧ u ≠ ql ∧ u ≠ qe) (H : SH h0 h qs qw ql qe gm gw gl ge) (hd : d < 64) (hw : w < 2048) (hmv : mv < 64) (hP : ∀ h1 : AH, SH h0 h1 qs qw ql qe (upd gm w (-3)) (upd gw d (nI w)) (upd gl d (nI mv)) (upd ge d (if mv = 0 then nI (w % 64) else -1)) → Post none h1 nx) : Runs l G i_X3_enter 0 0 [.ref u, .int (nI d), .int (nI w), .int (nI mv)] h nx Post := by
  obtain ⟨n1, n2, n3, n4⟩ := nu
  have H1 := H.w (g := upd gw d (nI w)) hq
  have H2 := H1.l (g := upd gl d (nI mv)) hq
  have H3 := H2.e (g := upd ge d (if mv = 0 then nI (w % 64) else -1)) hq
  have H4 := H3.s (g := upd gm w (-3)) hq
  have ew : nI w &&& 63 = nI (w % 64) := by rw [show (63 : Int32) = nI 63 from rfl, nx_and, show (63 : Nat) = 2 ^ 6 - 1 from rfl, Nat.and_two_pow_sub_one_eq_mod]
  refine en_X3_enter hX [] 60 rfl ?_
  refine Exists.intro _ (And.intro hu (Exists.intro _ (And.intro u13 ?_)))
  refine Exists.intro _ (Exists.intro _ (And.intro H.2.2.1 (And.intro (vp_in_nI hd (by decide)) ?_)))
  rw [nI_clamp (by omega)]
  refine Exists.intro _ (And.intro (by rw [uph_ne n2]; exact hu) (Exists.intro _ (And.intro u14 ?_)))
  refine Exists.intro _ (Exists.intro _ (And.intro H1.2.2.2.1 (And.intro (vp_in_nI hd (by decide)) ?_)))
  rw [nI_clamp (by omega)]
  refine Exists.intro _ (And.intro (by rw [uph_ne n3, uph_ne n2]; exact hu) (Exists.intro _ (And.intro u15 ?_)))
  by_cases h0 : mv = 0
  · rw [if_pos h0] at H3 H4 hP
    refine And.intro (fun cz => absurd (by rw [h0]; rfl) cz) (fun _ => ?_)
    refine Exists.intro _ (Exists.intro _ (And.intro H2.2.2.2.2 (And.intro (vp_in_nI hd (by decide)) ?_)))
    rw [nI_clamp (by omega), ew]
    refine Exists.intro _ (And.intro (by rw [uph_ne n4, uph_ne n3, uph_ne n2]; exact hu) (Exists.intro _ (And.intro u12 ?_)))
    refine Exists.intro 2 (Exists.intro _ (Exists.intro _ (And.intro H3.2.1 (And.intro (Or.inl rfl) (And.intro (vp_in_nI hw (by decide)) ?_)))))
    rw [nI_clamp (by omega), show vp_nar (TY 2) (-3) = -3 from by decide]
    exact hP _ H4
  · rw [if_neg h0] at H3 H4 hP
    refine And.intro (fun _ => ?_) (fun cz => absurd cz (nI_ne0 (by omega) (by omega)))
    refine Exists.intro _ (Exists.intro _ (And.intro H2.2.2.2.2 (And.intro (vp_in_nI hd (by decide)) ?_)))
    rw [nI_clamp (by omega)]
    refine Exists.intro _ (And.intro (by rw [uph_ne n4, uph_ne n3, uph_ne n2]; exact hu) (Exists.intro _ (And.intro u12 ?_)))
    refine Exists.intro 2 (Exists.intro _ (Exists.intro _ (And.intro H3.2.1 (And.intro (Or.inl rfl) (And.intro (vp_in_nI hw (by decide)) ?_)))))
    rw [nI_clamp (by omega), show vp_nar (TY 2) (-3) = -3 from by decide]
    exact hP _ H4
