/-! longs as numbers; the JDK's copyOf of longs -/
theorem bl_nat {a i : Nat} (hi : i < 64) : bl (lN a) i = a.testBit i := by
  unfold bl
  show (BitVec.ofNat 64 a).getLsbD i = _
  rw [BitVec.getLsbD_ofNat]
  simp [hi]
theorem lx_or (a b : Nat) : lN a ||| lN b = lN (a ||| b) := by
  apply bl_ext
  intro i hi
  rw [bl_or, bl_nat hi, bl_nat hi, bl_nat hi, Nat.testBit_or]
theorem lx_and (a b : Nat) : lN a &&& lN b = lN (a &&& b) := by
  apply bl_ext
  intro i hi
  rw [bl_and, bl_nat hi, bl_nat hi, bl_nat hi, Nat.testBit_and]
theorem lx_shl {a k : Nat} (hk : k < 64) : lN a <<< ((nI k).toInt64 &&& 63) = lN (a <<< k) := by
  apply bl_ext
  intro i hi
  rw [bl_shl k hk _ hi, bl_nat hi, Nat.testBit_shiftLeft]
  by_cases h : k ≤ i
  · rw [bl_nat (by omega)]
  · simp [h]
theorem lx_ushr {a k : Nat} (ha : a < 2 ^ 64) (hk : k < 64) : ((lN a).toUInt64 >>> ((nI k).toInt64.toUInt64 &&& Int64.toUInt64 63)).toInt64 = lN (a >>> k) := by
  apply bl_ext
  intro i hi
  rw [bl_ushr k hk, bl_nat hi, Nat.testBit_shiftRight]
  by_cases h : k + i < 64
  · rw [bl_nat h]
  · rw [bl_big (by omega), tb_big ha (by omega)]
theorem bl_sshr (n : Nat) (hn : n < 64) (x : Int64) {i : Nat} (hi : i < 64) : bl (x >>> ((nI n).toInt64 &&& 63)) i = if n + i < 64 then bl x (n + i) else bl x 63 := by
  unfold bl
  rw [Int64.toBitVec_shiftRight]
  show (x.toBitVec.sshiftRight (((nI n).toInt64 &&& 63).toBitVec.smod 64).toNat).getLsbD i = _
  rw [sl_l n hn, BitVec.getLsbD_sshiftRight, BitVec.msb_eq_getLsbD_last]
  simp [hi]
theorem lx_shr {a k : Nat} (ha : a < 2 ^ 63) (hk : k < 64) : lN a >>> ((nI k).toInt64 &&& 63) = lN (a >>> k) := by
  apply bl_ext
  intro i hi
  rw [bl_sshr k hk _ hi, bl_nat hi, Nat.testBit_shiftRight]
  split
  · rw [bl_nat (by omega)]
  · rw [bl_nat (by omega), tb_big ha (Nat.le_refl _), tb_big ha (by omega)]
theorem lg_nat {a b : Nat} (ha : a < 2 ^ 63) (hb : b < 2 ^ 63) : lg_cmp (lN a) (lN b) = 0 ↔ a = b := by
  rw [cmp_eq]
  exact pk_lEQ ha hb
/-- a number of n bits and one of higher bits -/
theorem or_add {a b n : Nat} (hb : b < 2 ^ n) : 2 ^ n * a ||| b = 2 ^ n * a + b := (Nat.two_pow_add_eq_or_of_lt hb a).symm
abbrev i_J7_copyOf_c38d5 : Nat := 323
theorem sg_J7_copyOf_c38d5 : sg i_J7_copyOf_c38d5 = s_J7_copyOf_c38d5 := rfl
theorem en_J7_copyOf_c38d5 {l : Launch} {G : GG} {mc ms : Nat} {As : List Value} {h : AH} {nx : Nat} {Post : Option Value → AH → Nat → Prop} (hX : XC G ∧ TX l G) (stops : List Nat) (f : Nat) (hlen : Nat.ble (lg_sl As).length 3 = true) (hr : run l G 14 s_J7_copyOf_c38d5 e_J7_copyOf_c38d5 mc ms Post stops f 0 (lv_args 0 As) [] h nx 0 0) : Runs l G i_J7_copyOf_c38d5 mc ms As h nx Post := Runs.of' sg_J7_copyOf_c38d5 ck_J7_copyOf_c38d5 rfl pl_RJ7 hX stops f hlen hr
set_option maxHeartbeats 8000000 in
theorem c_copyOf {l : Launch} {G : GG} {h : AH} {nx : Nat} {Post : Option Value → AH → Nat → Prop} {q n m : Nat} {f : Nat → Int64} (hX : XC G ∧ TX l G) (hq : h q = some (.inl (1, m, .inr (.inl f)))) (hm : m < n) (hn : n ≤ 131072) (hne : q ≠ nx) (hP : Post (some (.ref nx)) (uph h nx (.inl (1, n, .inr (.inl (va_cpy f (fun _ => 0) 0 0 m))))) (nx + 1)) : Runs l G i_J7_copyOf_c38d5 1 n [.ref q, .int (nI n)] h nx Post := by
  refine en_J7_copyOf_c38d5 hX [] 60 rfl ?_
  refine Exists.intro _ (Exists.intro _ (And.intro hq (And.intro (by decide) ?_)))
  refine And.intro (fun _ => ?_) (fun cz => absurd cz (fun z => absurd ((nI_eq (a := n) (b := m) (by omega) (by omega)).mp z) (by omega)))
  refine Exists.intro n (Exists.intro _ (And.intro rfl (And.intro (nI_pos (by omega)) (And.intro (nI_clamp (by omega)) (And.intro (by omega) (And.intro (by omega) (And.intro (by omega) ?_)))))))
  refine Exists.intro _ (Exists.intro _ (And.intro ((uph_ne hne).trans hq) (And.intro (by decide) ?_)))
  refine And.intro rfl ?_
  rw [show (Int32.ofNat ((m, Sum.inr (Sum.inl f)) : vp_A).1) = nI m from rfl, if_neg (show ¬ nI n < nI m from nI_nlt (by omega) (by omega))]
  refine Exists.intro m (Exists.intro n (Exists.intro f (Exists.intro (fun _ => 0) (And.intro rfl (And.intro ((uph_ne hne).trans hq) (And.intro uph_eq (And.intro (by decide) (And.intro (by decide) (And.intro (nI_pos (by omega)) (And.intro (by rw [nI_clamp (by omega)]; exact Nat.le_of_eq (Nat.zero_add m)) (And.intro (by rw [nI_clamp (by omega)]; exact Nat.le_of_lt (by rw [show (0 : Int32).toNatClampNeg = 0 from rfl]; omega)) ?_)))))))))))
  rw [nI_clamp (show m < 2 ^ 31 by omega), uph_uph]
  exact hP
/-- the capacities of x's queue, and what the way to each of them has made -/
def QV (q : Nat) : Prop := q = 256 ∨ q = 1024 ∨ q = 4096 ∨ q = 16384 ∨ q = 65536 ∨ q = 131072
def gC (q : Nat) : Nat := if q ≤ 256 then 0 else if q ≤ 1024 then 1 else if q ≤ 4096 then 2 else if q ≤ 16384 then 3 else if q ≤ 65536 then 4 else 5
def gS (q : Nat) : Nat := if q ≤ 256 then 0 else if q ≤ 1024 then 1024 else if q ≤ 4096 then 5120 else if q ≤ 16384 then 21504 else if q ≤ 65536 then 87040 else 218112
def nxC (q : Nat) : Nat := min 131072 (4 * q)
def capF (q T : Nat) : Nat := if T ≤ q then q else if T ≤ 1024 then 1024 else if T ≤ 4096 then 4096 else if T ≤ 16384 then 16384 else if T ≤ 65536 then 65536 else 131072
theorem nxC_ok {q : Nat} (h : QV q) (hq : q < 131072) : QV (nxC q) ∧ gS (nxC q) = gS q + nxC q ∧ gC (nxC q) = gC q + 1 ∧ q < nxC q ∧ nxC q ≤ 131072 := by
  rcases h with rfl | rfl | rfl | rfl | rfl | rfl
  · refine ⟨Or.inr (Or.inl rfl), rfl, rfl, by decide, by decide⟩
  · refine ⟨Or.inr (Or.inr (Or.inl rfl)), rfl, rfl, by decide, by decide⟩
  · refine ⟨Or.inr (Or.inr (Or.inr (Or.inl rfl))), rfl, rfl, by decide, by decide⟩
  · refine ⟨Or.inr (Or.inr (Or.inr (Or.inr (Or.inl rfl)))), rfl, rfl, by decide, by decide⟩
  · refine ⟨Or.inr (Or.inr (Or.inr (Or.inr (Or.inr rfl)))), rfl, rfl, by decide, by decide⟩
  · exact absurd hq (Nat.lt_irrefl _)
theorem capF_0 {q T : Nat} (h : T ≤ q) : capF q T = q := if_pos h
theorem capF_ok {q T : Nat} (h : QV q) (hT : T ≤ 131072) : QV (capF q T) ∧ q ≤ capF q T ∧ T ≤ capF q T := by
  unfold capF QV at *
  repeat' split
  all_goals omega
/-- one more entry: the queue has room for it, or it grows -/
theorem capF_s {q T : Nat} (h : QV q) (hT : T < 131072) : (T < capF q T ∧ capF q (T + 1) = capF q T) ∨ (capF q T ≤ T ∧ capF q (T + 1) = nxC (capF q T) ∧ capF q T < 131072) := by
  unfold capF nxC QV at *
  rcases h with rfl | rfl | rfl | rfl | rfl | rfl <;> repeat' split
  all_goals omega
theorem gS_mono {a b : Nat} (h : a ≤ b) : gS a ≤ gS b ∧ gC a ≤ gC b := by
  unfold gS gC
  constructor
  · repeat' split
    all_goals omega
  · repeat' split
    all_goals omega
theorem capF_mono {q T U : Nat} (h : QV q) (hl : T ≤ U) (hU : U ≤ 131072) : capF q T ≤ capF q U := by
  unfold capF QV at *
  rcases h with rfl | rfl | rfl | rfl | rfl | rfl <;> repeat' split
  all_goals omega
theorem capF_tr {q T U : Nat} (h : QV q) (hl : T ≤ U) (hU : U ≤ 131072) : capF (capF q T) U = capF q U := by
  unfold capF QV at *
  rcases h with rfl | rfl | rfl | rfl | rfl | rfl <;> repeat' split
  all_goals omega
