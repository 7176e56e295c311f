/-! the model asks a hut that is built; it goes through what is reached -/
set_option maxHeartbeats 8000000 in
theorem m_startOf {l : Launch} {G : GG} {h : AH} {nx : Nat} {Post : Option Value → AH → Nat → Prop} {o hh : Nat} {q : HKy} {fs : List Value} (hX : XC G ∧ TX l G) (hM : MA h o fs) (hhh : hh < 2) (hq : WK q) (hB : HB h o hh q) (hP : Post (some (.int (kSe q 0 (kSu q)))) h nx) : Runs l G i_X12_startOf 0 0 [.ref o, .int (nI hh)] h nx Post := by
  obtain ⟨a, b, c, d, k1, k2, k3, k4, k5, k6, k7⟩ := hB
  exact c_startOf (nR := dR (kD q)) (nxs := kNx q) (stv := kSt q) (suv := kSu q) hX hM hhh hq.1.r k2 k3 k4 k5 k6 (kSt_up hq).2 (fun v hv => (k7 0 (Nat.two_pow_pos _) v hv).2) hP
set_option maxHeartbeats 8000000 in
theorem m_behind {l : Launch} {G : GG} {h : AH} {nx : Nat} {Post : Option Value → AH → Nat → Prop} {o hh on up : Nat} {q : HKy} {fs : List Value} (hX : XC G ∧ TX l G) (hM : MA h o fs) (hhh : hh < 2) (hq : WK q) (hB : HB h o hh q) (hon : on < 2 ^ dI (kD q)) (hup : up < 2 ^ dR (kD q)) (hP : Post (some (.int (kSe q on up))) h nx) : Runs l G i_X12_behind 0 0 [.ref o, .int (nI hh), .int (nI on), .int (nI up)] h nx Post := by
  obtain ⟨a, b, c, d, k1, k2, k3, k4, k5, k6, k7⟩ := hB
  have hp := hq.1.pr
  have hpi := hq.1.pi
  refine c_behind hX hM.1 (hM.2.2 42 (by decide)) k2 (by omega) ?_
  rw [(k7 on hon up hup).2]
  exact hP
set_option maxHeartbeats 8000000 in
theorem m_lampsAt {l : Launch} {G : GG} {h : AH} {nx : Nat} {Post : Option Value → AH → Nat → Prop} {o hh on up : Nat} {q : HKy} {fs : List Value} (hX : XC G ∧ TX l G) (hM : MA h o fs) (hhh : hh < 2) (hq : WK q) (hB : HB h o hh q) (hon : on < 2 ^ dI (kD q)) (hup : up < 2 ^ dR (kD q)) (hP : Post (some (.int (nI (kSh q on up >>> 6)))) h nx) : Runs l G i_X12_lampsAt 0 0 [.ref o, .int (nI hh), .int (nI on), .int (nI up)] h nx Post := by
  obtain ⟨a, b, c, d, k1, k2, k3, k4, k5, k6, k7⟩ := hB
  have hp := hq.1.pr
  have hpi := hq.1.pi
  have h2048 := kSh_lt q on up
  exact c_lampsAtM hX hM.1 (hM.2.2 41 (by decide)) k1 (by omega) ((k7 on hon up hup).1) (by omega) hP
set_option maxHeartbeats 8000000 in
theorem m_placed {l : Launch} {G : GG} {h : AH} {nx : Nat} {Post : Option Value → AH → Nat → Prop} {o hh up : Nat} {q : HKy} {fs : List Value} (hX : XC G ∧ TX l G) (hM : MA h o fs) (hhh : hh < 2) (hB : HB h o hh q) (hP : Post (some (.int (nI (kPl q up)))) h nx) : Runs l G i_X12_placed 0 0 [.ref o, .int (nI hh), .int (nI up)] h nx Post := by
  obtain ⟨a, b, c, d, k1, k2, k3, k4, k5, k6, k7⟩ := hB
  exact c_placed hX hM.1 (hM.2.2 43 (by decide)) (hM.2.2 44 (by decide)) k3 k4 hhh k5 k6 hP
/-- what the model's rows tell of all that is reached -/
def RHm (h : AH) (o : Nat) (q : HKy) (fs : List Value) : Prop := ∃ gr gf gb : Nat → Int32, h (o + 1 + 45) = some (.inl (0, 2048, .inl gr)) ∧ h (o + 1 + 46) = some (.inl (0, 2048, .inl gf)) ∧ h (o + 1 + 47) = some (.inl (0, 2048, .inl gb)) ∧ fs[68]? = some (.int (nI (kFn q).1)) ∧ fs[73]? = some (.int (nI (kFn q).2.2.2)) ∧ fs[74]? = some (.int (kWa q)) ∧ (kFn q).1 ≤ 2048 ∧ (0 < (kFn q).1 → gf 0 = -1) ∧ ∀ j, j < (kFn q).1 → gr j = nI ((kFn q).2.1 j) ∧ kVal q ((kFn q).2.1 j) ∧ (0 < j → gf j = nI ((kFn q).2.2.1 j).1 ∧ gb j = nI ((kFn q).2.2.1 j).2 ∧ ((kFn q).2.2.1 j).1 < j ∧ ((kFn q).2.2.1 j).2 < 8)
/-- what is found can be reached -/
theorem val_add {V : Nat → Prop} {S : BS} {y k i : Nat} (h : ∀ j, j < S.1 → V (S.2.1 j)) (hy : V y) : ∀ j, j < (bAdd S y k i).1 → V ((bAdd S y k i).2.1 j) := by
  unfold bAdd
  split
  · exact h
  · intro j hj
    have hj2 : j < S.1 + 1 := hj
    show V (upN S.2.1 S.1 y j)
    by_cases e : j = S.1
    · rw [e, upN_s]; exact hy
    · rw [upN_n e]; exact h j (by omega)
theorem val_I {V : Nat → Prop} {nb : Nat → Nat → Option Nat} {k x n : Nat} {S : BS} (hn : ∀ i y, i < n → nb x i = some y → V y) (h : ∀ j, j < S.1 → V (S.2.1 j)) : ∀ i, i ≤ n → ∀ j, j < (bI nb k x i S).1 → V ((bI nb k x i S).2.1 j)
  | 0, _ => h
  | i + 1, hi => by
    have ih := val_I (k := k) hn h i (by omega)
    unfold bI
    split
    · exact ih
    · next y he => exact val_add ih (hn i y (by omega) he)
theorem val_K {V : Nat → Prop} {nb : Nat → Nat → Option Nat} {n : Nat} {S : BS} (hn : ∀ x i y, V x → i < n → nb x i = some y → V y) (h : ∀ j, j < S.1 → V (S.2.1 j)) : ∀ k j, j < (bK nb n k S).1 → V ((bK nb n k S).2.1 j)
  | 0 => h
  | k + 1 => by
    have ih := val_K hn h k
    rw [show bK nb n (k + 1) S = if k < (bK nb n k S).1 then bI nb k ((bK nb n k S).2.1 k) n (bK nb n k S) else bK nb n k S from rfl]
    split
    · next hk => exact val_I (k := k) (n := n) (fun i y hi he => hn _ i y (ih k hk) hi he) ih n (Nat.le_refl n)
    · exact ih
theorem kOk_su {q : HKy} : kOk q (kSu q) := by
  refine Nat.eq_of_testBit_eq (fun r => ?_)
  rw [Nat.testBit_and]
  have := kSu_sub q r
  cases h1 : (kSu q).testBit r <;> cases h2 : (kSt q).testBit r <;> simp_all
theorem kVal_0 {q : HKy} (h : WK q) {s : Nat} (hs : s < 2 ^ dR (kD q)) (he : kSe q 0 (kSu q) = nI s) : kVal q s := by
  have hp := h.1.pr
  refine ⟨by omega, by rw [Nat.div_eq_of_lt (by omega)]; exact Nat.two_pow_pos _, by omega, ?_⟩
  rw [Nat.mod_eq_of_lt (by omega)]
  rcases kSe_c h (on := 0) (kSt_up h).2 with e | ⟨s2, a, e, c⟩
  · rw [e] at he
    exact absurd he.symm (nI_n2 (by omega)).1
  · rw [e] at he
    have := (nI_eq (by omega) (by omega)).mp he
    rw [← this]
    exact c kOk_su
theorem kVal_S0 {q : HKy} (h : WK q) {s : Nat} (hs : s < 2 ^ dR (kD q)) (he : kSe q 0 (kSu q) = nI s) : ∀ k j, j < (bK (kNb q) (dI (kD q)) k (S0F s)).1 → kVal q ((bK (kNb q) (dI (kD q)) k (S0F s)).2.1 j) :=
  val_K (fun x i y hx hi hy => kNb_val h hx hi hy) (fun j hj => by
    have : j = 0 := by have hj2 : j < 1 := hj; omega
    rw [this]
    show kVal q (upN (fun _ => 0) 0 s 0)
    rw [upN_s]
    exact kVal_0 h hs he)
theorem orgB_S0 (s : Nat) : orgB (S0F s) := fun j h0 hj => by have hj2 : j < 1 := hj; omega
set_option maxHeartbeats 8000000 in
theorem m_reaches {l : Launch} {G : GG} {h : AH} {nx : Nat} {Post : Option Value → AH → Nat → Prop} {o hh d e : Nat} {q : HKy} {fs : List Value} (hX : XC G ∧ TX l G) (hM : MA h o fs) (hS : SHm h o) (hhh : hh < 2) (hq : WK q) (hB : HB h o hh q) (hD : MPg h o d (kD q)) (hE : MPg h o e (kE q)) (hP : ∀ (h1 : AH) (fs1 : List Value), MA h1 o fs1 → SHm h1 o → (∀ k, k ≠ 68 → k ≠ 73 → k ≠ 74 → fs1[k]? = fs[k]?) → (∀ a, (a < o ∨ (o < a ∧ a < o + 1 + 36) ∨ (o + 1 + 36 < a ∧ a < o + 1 + 45) ∨ o + 1 + 49 ≤ a) → h1 a = h a) → RHm h1 o q fs1 → Post none h1 nx) : Runs l G i_X12_reaches 0 0 [.ref o, .int (nI hh), .int (nI d), .int (nI e)] h nx Post := by
  have hp := hq.1.pr
  have hpi := hq.1.pi
  obtain ⟨a, b, c, d2, k1, k2, k3, k4, k5, k6, k7⟩ := hB
  obtain ⟨b1, b2, b3, ⟨gI, eI, pI⟩, _, ⟨gg, eg, pg⟩, _, hd⟩ := hD
  obtain ⟨_, _, _, _, _, gL, _, _, _, _, _, _, _, _, e13, _, _, _, _, _, _, _, _, pL, _⟩ := b1
  obtain ⟨_, _, c3, _, _, _, _, _⟩ := hE
  obtain ⟨g36, e36⟩ := hS.i 36 (by decide) (by decide) rfl
  obtain ⟨g45, e45⟩ := hS.i 45 (by decide) (by decide) rfl
  obtain ⟨g46, e46⟩ := hS.i 46 (by decide) (by decide) rfl
  obtain ⟨g47, e47⟩ := hS.i 47 (by decide) (by decide) rfl
  obtain ⟨g48, e48⟩ := hS.i 48 (by decide) (by decide) rfl
  have shape : ∀ (h1 : AH) (fs1 : List Value) (gF gr gf gb : Nat → Int32) (Fn ra : Nat) (wa : Int32), RB o h fs h1 fs1 gF gr gf gb Fn ra wa → SHm h1 o := by
    intro h1 fs1 gF gr gf gb Fn ra wa hR
    obtain ⟨r1, r2, r3, r4, r5, r6, r7, r8, r9, ⟨g, r10⟩, r11⟩ := hR
    refine hS.upd (fun j hj => ?_)
    by_cases c1 : j = 36 ∨ j = 45 ∨ j = 46 ∨ j = 47 ∨ j = 48
    · right
      rcases c1 with rfl | rfl | rfl | rfl | rfl
      · exact ⟨_, r10⟩
      · exact ⟨_, r6⟩
      · exact ⟨_, r7⟩
      · exact ⟨_, r8⟩
      · exact ⟨_, r9⟩
    · left
      exact r11 _ (by omega) (by omega) (by omega) (by omega) (by omega) (by omega)
  refine c_reaches (nIn := dI (kD q)) (nR := dR (kD q)) (nxs := kNx q) (nL := dL (kD q)) (nV := dV (kE q)) (shv := kSh q) (lp := dlp (kE q)) (grn := dgr (kD q)) (tr := dtr (kE q)) (NV := dNV (kE q)) (stv := kSt q) (suv := kSu q) hX hM hd hhh eI pI hq.1.i hq.1.r k2 (fun on u => kNx_lt hq.1 on u) (fun on hon v hv => (k7 on hon v hv).2) c3 k1 e13 eg pL hq.1.l pg (fun on hon v hv => ⟨(k7 on hon v hv).1, kSh_lt q on v⟩) k3 k4 k5 k6 (kSt_up hq).2 e36 e45 e46 e47 e48 (fun hr h1 fs1 gF hR => ?_) (fun s0 hs0 he h1 fs1 gF gr gf gb k hk hR hA => ?_)
  · have hsh := shape _ _ _ _ _ _ _ _ _ hR
    obtain ⟨r1, r2, r3, r4, r5, r6, r7, r8, r9, r10, r11⟩ := hR
    have e0 : kFn q = SRF := kFn_race hr
    refine hP h1 fs1 r1 hsh r2 (fun a ha => r11 a (by omega) (by omega) (by omega) (by omega) (by omega) (by omega)) ⟨_, _, _, r6, r7, r8, ?_, ?_, ?_, ?_, ?_, ?_⟩
    · rw [e0]; exact r3
    · rw [e0]; exact r4
    · unfold kWa; rw [e0]; exact r5
    · rw [e0]; exact Nat.zero_le _
    · rw [e0]; exact fun z => absurd z (Nat.lt_irrefl 0)
    · rw [e0]; exact fun j hj => absurd hj (Nat.not_lt_zero j)
  · have hsh := shape _ _ _ _ _ _ _ _ _ hR
    obtain ⟨r1, r2, r3, r4, r5, r6, r7, r8, r9, r10, r11⟩ := hR
    have hk2 : (bK (kNb q) (dI (kD q)) k (S0F s0)).1 = k := hk
    obtain ⟨a1, a2, a3, a4⟩ := hA
    have hle : k ≤ 2048 := by rw [← hk]; omega
    have e0 : kFn q = bK (kNb q) (dI (kD q)) k (S0F s0) := by
      rw [kFn_go he (by omega), show 2048 = k + (2048 - k) by omega]
      exact bK_end (Nat.le_of_eq hk2) _
    have ho := orgB_K (nb := kNb q) (n := dI (kD q)) (by have := hq.1.i; omega) (orgB_S0 s0) k
    have hv := kVal_S0 hq hs0 he k
    refine hP h1 fs1 r1 hsh r2 (fun a ha => r11 a (by omega) (by omega) (by omega) (by omega) (by omega) (by omega)) ⟨gr, gf, gb, r6, r7, r8, ?_, ?_, ?_, ?_, ?_, ?_⟩
    · rw [e0, hk2]; exact r3
    · rw [e0]; exact r4
    · unfold kWa; rw [e0, hk2]; exact r5
    · rw [e0, hk2]; exact hle
    · rw [e0]; exact fun z => (a2 z).1
    · rw [e0]
      intro j hj
      have q1 := a1 j hj
      exact ⟨q1.1, hv j hj, fun h0 => ⟨(q1.2.2.2 h0).1, (q1.2.2.2 h0).2, (ho j h0 hj).1, (ho j h0 hj).2⟩⟩
