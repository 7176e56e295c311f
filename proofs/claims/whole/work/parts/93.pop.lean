/-! how many bits a long has (Long.bitCount), of longs below 2^40 -/
def pqN (f : Nat → Bool) : Nat → Nat
  | 0 => 0
  | n + 1 => pqN f n + (f n).toNat
theorem pqN_add (f : Nat → Bool) (n : Nat) : ∀ m, pqN f (n + m) = pqN f n + pqN (fun i => f (n + i)) m
  | 0 => rfl
  | m + 1 => by
    show pqN f (n + m) + (f (n + m)).toNat = _
    rw [pqN_add f n m]
    show _ = pqN f n + (pqN (fun i => f (n + i)) m + (f (n + m)).toNat)
    omega
theorem pqN_congr {f g : Nat → Bool} : ∀ {n}, (∀ i, i < n → f i = g i) → pqN f n = pqN g n
  | 0, _ => rfl
  | n + 1, h => by
    show pqN f n + (f n).toNat = pqN g n + (g n).toNat
    rw [pqN_congr (fun i hi => h i (by omega)), h n (by omega)]
def pV (a b c d e : Nat) : Nat := a + 256 * (b + 256 * (c + 256 * (d + 256 * e)))
theorem and_b {a m b M : Nat} (ha : a < 256) (hm : m < 256) : (a + 256 * b) &&& (m + 256 * M) = (a &&& m) + 256 * (b &&& M) := by
  have h1 : a &&& m < 2 ^ 8 := Nat.lt_of_le_of_lt Nat.and_le_left ha
  refine Nat.eq_of_testBit_eq (fun j => ?_)
  rw [Nat.add_comm a, Nat.add_comm m, Nat.add_comm (a &&& m), show (256 : Nat) = 2 ^ 8 from rfl, Nat.testBit_and, Nat.testBit_two_pow_mul_add b ha, Nat.testBit_two_pow_mul_add M hm, Nat.testBit_two_pow_mul_add (b &&& M) h1]
  split
  · rw [Nat.testBit_and]
  · rw [Nat.testBit_and]
theorem and_V {a b c d e m r : Nat} (ha : a < 256) (hb : b < 256) (hc : c < 256) (hd : d < 256) (he : e < 256) (hm : m < 256) : pV a b c d e &&& (m + 256 * (m + 256 * (m + 256 * (m + 256 * (m + 256 * r))))) = pV (a &&& m) (b &&& m) (c &&& m) (d &&& m) (e &&& m) := by
  unfold pV
  rw [and_b ha hm, and_b hb hm, and_b hc hm, and_b hd hm]
  have e1 := and_b (b := 0) (M := r) he hm
  rw [Nat.mul_zero, Nat.add_zero, Nat.zero_and, Nat.mul_zero, Nat.add_zero] at e1
  rw [e1]
def b1 (b : Nat) : Nat := b - ((b / 2) &&& 85)
def b2 (b : Nat) : Nat := (b &&& 51) + ((b / 4) &&& 51)
def b3 (b : Nat) : Nat := (b + b / 16) &&& 15
theorem b1_ok : ∀ b, b < 256 → (b / 2) &&& 85 ≤ b ∧ b1 b < 256 := by decide +kernel
theorem b1_m : ∀ b, b < 256 → ∀ t, t < 2 → ((b / 2 + 128 * t) &&& 85) = ((b / 2) &&& 85) := by decide +kernel
theorem b2_ok : ∀ b, b < 256 → b2 b < 256 ∧ b &&& 51 < 128 ∧ (b / 4) &&& 51 < 128 := by decide +kernel
theorem b2_m : ∀ b, b < 256 → ∀ t, t < 4 → ((b / 4 + 64 * t) &&& 51) = ((b / 4) &&& 51) := by decide +kernel
theorem b12_ok : ∀ b, b < 256 → b2 (b1 b) % 16 ≤ 4 ∧ b2 (b1 b) / 16 ≤ 4 := by decide +kernel
theorem b3_m : ∀ b, b < 80 → ∀ t, t < 5 → ((b + b / 16 + 16 * t) &&& 15) = ((b + b / 16) &&& 15) := by decide +kernel
theorem b_pop : ∀ b, b < 256 → b3 (b2 (b1 b)) = pqN b.testBit 8 ∧ b3 (b2 (b1 b)) ≤ 8 := by decide +kernel
theorem st_1 {a b c d e : Nat} (ha : a < 256) (hb : b < 256) (hc : c < 256) (hd : d < 256) (he : e < 256) : ((pV a b c d e >>> 1) &&& 6148914691236517205) ≤ pV a b c d e ∧ pV a b c d e - ((pV a b c d e >>> 1) &&& 6148914691236517205) = pV (b1 a) (b1 b) (b1 c) (b1 d) (b1 e) := by
  have e1 : pV a b c d e >>> 1 = pV (a / 2 + 128 * (b % 2)) (b / 2 + 128 * (c % 2)) (c / 2 + 128 * (d % 2)) (d / 2 + 128 * (e % 2)) (e / 2) := by
    rw [Nat.shiftRight_eq_div_pow]
    unfold pV
    omega
  rw [e1, show 6148914691236517205 = 85 + 256 * (85 + 256 * (85 + 256 * (85 + 256 * (85 + 256 * 5592405)))) from rfl, and_V (by omega) (by omega) (by omega) (by omega) (by omega) (by decide), b1_m a ha _ (by omega), b1_m b hb _ (by omega), b1_m c hc _ (by omega), b1_m d hd _ (by omega)]
  have h1 := (b1_ok a ha).1
  have h2 := (b1_ok b hb).1
  have h3 := (b1_ok c hc).1
  have h4 := (b1_ok d hd).1
  have h5 := (b1_ok e he).1
  unfold pV b1
  generalize (a / 2 &&& 85) = A at *
  generalize (b / 2 &&& 85) = B at *
  generalize (c / 2 &&& 85) = C at *
  generalize (d / 2 &&& 85) = E at *
  generalize (e / 2 &&& 85) = F at *
  omega
theorem st_2 {a b c d e : Nat} (ha : a < 256) (hb : b < 256) (hc : c < 256) (hd : d < 256) (he : e < 256) : (pV a b c d e &&& 3689348814741910323) + ((pV a b c d e >>> 2) &&& 3689348814741910323) = pV (b2 a) (b2 b) (b2 c) (b2 d) (b2 e) := by
  have e1 : pV a b c d e >>> 2 = pV (a / 4 + 64 * (b % 4)) (b / 4 + 64 * (c % 4)) (c / 4 + 64 * (d % 4)) (d / 4 + 64 * (e % 4)) (e / 4) := by
    rw [Nat.shiftRight_eq_div_pow]
    unfold pV
    omega
  rw [e1, show 3689348814741910323 = 51 + 256 * (51 + 256 * (51 + 256 * (51 + 256 * (51 + 256 * 3355443)))) from rfl, and_V ha hb hc hd he (by decide), and_V (by omega) (by omega) (by omega) (by omega) (by omega) (by decide), b2_m a ha _ (by omega), b2_m b hb _ (by omega), b2_m c hc _ (by omega), b2_m d hd _ (by omega)]
  unfold pV b2
  omega
theorem st_3 {a b c d e : Nat} (ha : a % 16 ≤ 4 ∧ a / 16 ≤ 4) (hb : b % 16 ≤ 4 ∧ b / 16 ≤ 4) (hc : c % 16 ≤ 4 ∧ c / 16 ≤ 4) (hd : d % 16 ≤ 4 ∧ d / 16 ≤ 4) (he : e % 16 ≤ 4 ∧ e / 16 ≤ 4) : ((pV a b c d e + (pV a b c d e >>> 4)) &&& 1085102592571150095) = pV (b3 a) (b3 b) (b3 c) (b3 d) (b3 e) := by
  have e1 : pV a b c d e + (pV a b c d e >>> 4) = pV (a + a / 16 + 16 * (b % 16)) (b + b / 16 + 16 * (c % 16)) (c + c / 16 + 16 * (d % 16)) (d + d / 16 + 16 * (e % 16)) (e + e / 16) := by
    rw [Nat.shiftRight_eq_div_pow]
    unfold pV
    omega
  rw [e1, show 1085102592571150095 = 15 + 256 * (15 + 256 * (15 + 256 * (15 + 256 * (15 + 256 * 986895)))) from rfl, and_V (by omega) (by omega) (by omega) (by omega) (by omega) (by decide), b3_m a (by omega) _ (by omega), b3_m b (by omega) _ (by omega), b3_m c (by omega) _ (by omega), b3_m d (by omega) _ (by omega)]
  rfl
theorem st_4 {a b c d e v4 v5 v6 : Nat} (ha : a ≤ 8) (hb : b ≤ 8) (hc : c ≤ 8) (hd : d ≤ 8) (he : e ≤ 8) (h4 : v4 = pV a b c d e + pV a b c d e / 256) (h5 : v5 = v4 + v4 / 65536) (h6 : v6 = v5 + v5 / 4294967296) : v6 % 128 = a + b + c + d + e ∧ v6 < 2 ^ 50 := by
  unfold pV at h4
  have t1 : (a + 256 * (b + 256 * (c + 256 * (d + 256 * e)))) / 256 = b + 256 * (c + 256 * (d + 256 * e)) := by omega
  rw [t1] at h4
  have t2 : v4 / 65536 = c + d + 256 * (d + e) + 65536 * e := by omega
  rw [t2] at h5
  have t3 : v5 / 4294967296 = e := by omega
  rw [t3] at h6
  omega
theorem pV_of {v : Nat} (h : v < 2 ^ 40) : v = pV (v % 256) (v / 256 % 256) (v / 65536 % 256) (v / 16777216 % 256) (v / 4294967296) ∧ v / 4294967296 < 256 := by
  unfold pV
  omega
theorem pop_byte {v j : Nat} {f : Nat → Bool} (hf : ∀ i, v.testBit i = f i) : pqN (v / 2 ^ j % 256).testBit 8 = pqN (fun i => f (j + i)) 8 := by
  refine pqN_congr (fun i hi => ?_)
  rw [show (256 : Nat) = 2 ^ 8 from rfl, Nat.testBit_mod_two_pow, decide_eq_true hi, Bool.true_and, Nat.testBit_div_two_pow, hf]
  rw [Nat.add_comm]
set_option maxHeartbeats 8000000 in
theorem c_bitCountL {l : Launch} {G : GG} {h : AH} {nx : Nat} {Post : Option Value → AH → Nat → Prop} {z : Int64} {f : Nat → Bool} (hX : XC G ∧ TX l G) (hz : ∀ k, k < 64 → bl z k = f k) (hf : ∀ k, f k = true → k < 40) (hP : Post (some (.int (nI (pqN f 40)))) h nx) : Runs l G i_J13_bitCount_95d88 0 0 [.long z] h nx Post := by
  have ez : z = lN (bsum f 40) := bl_ext (fun i hi => by
    rw [hz i hi, bl_nat hi, bsum_tb]
    cases c : f i with
    | false => rw [Bool.and_false]
    | true => rw [decide_eq_true (hf i c)]; rfl)
  have hv := bsum_lt f 40
  have tb : ∀ i, (bsum f 40).testBit i = f i := fun i => by
    rw [bsum_tb]
    cases c : f i with
    | false => rw [Bool.and_false]
    | true => rw [decide_eq_true (hf i c)]; rfl
  generalize bsum f 40 = v at ez hv tb
  obtain ⟨p1, p2⟩ := pV_of hv
  have q0 := b_pop (v % 256) (by omega)
  have q1 := b_pop (v / 256 % 256) (by omega)
  have q2 := b_pop (v / 65536 % 256) (by omega)
  have q3 := b_pop (v / 16777216 % 256) (by omega)
  have q4 := b_pop (v / 4294967296) p2
  have y0 : pqN (v % 256).testBit 8 = pqN (fun i => f (0 + i)) 8 := by have := pop_byte (v := v) (j := 0) tb; rw [Nat.pow_zero, Nat.div_one] at this; exact this
  have y1 : pqN (v / 256 % 256).testBit 8 = pqN (fun i => f (8 + i)) 8 := pop_byte (j := 8) tb
  have y2 : pqN (v / 65536 % 256).testBit 8 = pqN (fun i => f (16 + i)) 8 := pop_byte (j := 16) tb
  have y3 : pqN (v / 16777216 % 256).testBit 8 = pqN (fun i => f (24 + i)) 8 := pop_byte (j := 24) tb
  have y4 : pqN (v / 4294967296).testBit 8 = pqN (fun i => f (32 + i)) 8 := by have := pop_byte (v := v) (j := 32) tb; rw [show v / 2 ^ 32 % 256 = v / 4294967296 from by rw [show (2 ^ 32 : Nat) = 4294967296 from rfl]; omega] at this; exact this
  have tot : pqN f 40 = pqN (v % 256).testBit 8 + pqN (v / 256 % 256).testBit 8 + pqN (v / 65536 % 256).testBit 8 + pqN (v / 16777216 % 256).testBit 8 + pqN (v / 4294967296).testBit 8 := by
    rw [y0, y1, y2, y3, y4, show (40 : Nat) = 8 + 8 + 8 + 8 + 8 from rfl, pqN_add, pqN_add, pqN_add, pqN_add]
    simp only [Nat.zero_add]
  have s1 := st_1 (a := v % 256) (b := v / 256 % 256) (c := v / 65536 % 256) (d := v / 16777216 % 256) (e := v / 4294967296) (by omega) (by omega) (by omega) (by omega) p2
  rw [← p1] at s1
  have s2 := st_2 (b1_ok (v % 256) (by omega)).2 (b1_ok (v / 256 % 256) (by omega)).2 (b1_ok (v / 65536 % 256) (by omega)).2 (b1_ok (v / 16777216 % 256) (by omega)).2 (b1_ok (v / 4294967296) p2).2
  have s3 := st_3 (b12_ok (v % 256) (by omega)) (b12_ok (v / 256 % 256) (by omega)) (b12_ok (v / 65536 % 256) (by omega)) (b12_ok (v / 16777216 % 256) (by omega)) (b12_ok (v / 4294967296) p2)
  obtain ⟨s4, s5⟩ := st_4 (v6 := _) q0.2 q1.2 q2.2 q3.2 q4.2 rfl rfl rfl
  have sh : ∀ (x k : Nat), x < 2 ^ 60 → k < 64 → ((lN x).toUInt64 >>> ((nI k).toInt64.toUInt64 &&& Int64.toUInt64 63)).toInt64 = lN (x >>> k) := fun x k hx hk => lx_ushr (by omega) hk
  have E1 : z - (((z.toUInt64 >>> ((1 : Int32).toInt64.toUInt64 &&& Int64.toUInt64 63)).toInt64) &&& 6148914691236517205) = lN (pV (b1 (v % 256)) (b1 (v / 256 % 256)) (b1 (v / 65536 % 256)) (b1 (v / 16777216 % 256)) (b1 (v / 4294967296))) := by
    rw [ez, show (1 : Int32) = nI 1 from rfl, sh v 1 (by omega) (by decide), show (6148914691236517205 : Int64) = lN 6148914691236517205 from rfl, lx_and, lN_sub s1.1, s1.2]
  generalize hx1 : pV (b1 (v % 256)) (b1 (v / 256 % 256)) (b1 (v / 65536 % 256)) (b1 (v / 16777216 % 256)) (b1 (v / 4294967296)) = x1 at E1 s2
  have l1 : x1 < 2 ^ 60 := by
    have o1 := (b1_ok (v % 256) (by omega)).2
    have o2 := (b1_ok (v / 256 % 256) (by omega)).2
    have o3 := (b1_ok (v / 65536 % 256) (by omega)).2
    have o4 := (b1_ok (v / 16777216 % 256) (by omega)).2
    have o5 := (b1_ok (v / 4294967296) p2).2
    rw [← hx1]
    unfold pV
    omega
  have E2 : (lN x1 &&& 3689348814741910323) + (((lN x1).toUInt64 >>> ((2 : Int32).toInt64.toUInt64 &&& Int64.toUInt64 63)).toInt64 &&& 3689348814741910323) = lN (pV (b2 (b1 (v % 256))) (b2 (b1 (v / 256 % 256))) (b2 (b1 (v / 65536 % 256))) (b2 (b1 (v / 16777216 % 256))) (b2 (b1 (v / 4294967296)))) := by
    rw [show (2 : Int32) = nI 2 from rfl, sh x1 2 l1 (by decide), show (3689348814741910323 : Int64) = lN 3689348814741910323 from rfl, lx_and, lx_and, lN_add, s2]
  generalize hx2 : pV (b2 (b1 (v % 256))) (b2 (b1 (v / 256 % 256))) (b2 (b1 (v / 65536 % 256))) (b2 (b1 (v / 16777216 % 256))) (b2 (b1 (v / 4294967296))) = x2 at E2 s3
  have l2 : x2 < 2 ^ 60 := by
    have o1 := (b2_ok _ (b1_ok (v % 256) (by omega)).2).1
    have o2 := (b2_ok _ (b1_ok (v / 256 % 256) (by omega)).2).1
    have o3 := (b2_ok _ (b1_ok (v / 65536 % 256) (by omega)).2).1
    have o4 := (b2_ok _ (b1_ok (v / 16777216 % 256) (by omega)).2).1
    have o5 := (b2_ok _ (b1_ok (v / 4294967296) p2).2).1
    rw [← hx2]
    unfold pV
    omega
  have E3 : (lN x2 + ((lN x2).toUInt64 >>> ((4 : Int32).toInt64.toUInt64 &&& Int64.toUInt64 63)).toInt64) &&& 1085102592571150095 = lN (pV (b3 (b2 (b1 (v % 256)))) (b3 (b2 (b1 (v / 256 % 256)))) (b3 (b2 (b1 (v / 65536 % 256)))) (b3 (b2 (b1 (v / 16777216 % 256)))) (b3 (b2 (b1 (v / 4294967296))))) := by
    rw [show (4 : Int32) = nI 4 from rfl, sh x2 4 l2 (by decide), show (1085102592571150095 : Int64) = lN 1085102592571150095 from rfl, lN_add, lx_and, s3]
  have sm : b3 (b2 (b1 (v % 256))) + b3 (b2 (b1 (v / 256 % 256))) + b3 (b2 (b1 (v / 65536 % 256))) + b3 (b2 (b1 (v / 16777216 % 256))) + b3 (b2 (b1 (v / 4294967296))) = pqN f 40 := by rw [q0.1, q1.1, q2.1, q3.1, q4.1, tot]
  replace s4 := s4.trans sm
  generalize hx3 : pV (b3 (b2 (b1 (v % 256)))) (b3 (b2 (b1 (v / 256 % 256)))) (b3 (b2 (b1 (v / 65536 % 256)))) (b3 (b2 (b1 (v / 16777216 % 256)))) (b3 (b2 (b1 (v / 4294967296)))) = x3 at E3 s4 s5
  have E4 : ∀ y4, y4 = x3 + x3 / 256 → y4 < 2 ^ 60 ∧ lN x3 + ((lN x3).toUInt64 >>> ((8 : Int32).toInt64.toUInt64 &&& Int64.toUInt64 63)).toInt64 = lN y4 := fun y4 hy => by
    rw [show (8 : Int32) = nI 8 from rfl, sh x3 8 (by omega) (by decide), lN_add, Nat.shiftRight_eq_div_pow, hy]
    exact ⟨by omega, rfl⟩
  obtain ⟨l4, E4⟩ := E4 _ rfl
  generalize hx4 : x3 + x3 / 256 = x4 at *
  have E5 : ∀ y5, y5 = x4 + x4 / 65536 → y5 < 2 ^ 60 ∧ lN x4 + ((lN x4).toUInt64 >>> ((16 : Int32).toInt64.toUInt64 &&& Int64.toUInt64 63)).toInt64 = lN y5 := fun y5 hy => by
    rw [show (16 : Int32) = nI 16 from rfl, sh x4 16 (by omega) (by decide), lN_add, Nat.shiftRight_eq_div_pow, hy]
    exact ⟨by omega, rfl⟩
  obtain ⟨l5, E5⟩ := E5 _ rfl
  generalize hx5 : x4 + x4 / 65536 = x5 at *
  have E6 : lN x5 + ((lN x5).toUInt64 >>> ((32 : Int32).toInt64.toUInt64 &&& Int64.toUInt64 63)).toInt64 = lN (x5 + x5 / 4294967296) := by
    rw [show (32 : Int32) = nI 32 from rfl, sh x5 32 (by omega) (by decide), lN_add, Nat.shiftRight_eq_div_pow]
  refine en_J13_bitCount_95d88 hX [10, 24, 34, 41, 48, 55] 60 rfl ?_
  refine go_loc (lv' := [(0, .long (z - (((z.toUInt64 >>> ((1 : Int32).toInt64.toUInt64 &&& Int64.toUInt64 63)).toInt64) &&& 6148914691236517205)))]) ⟨rfl, trivial⟩ ?_
  rw [E1]
  refine Go.of hX.2 ck_J13_bitCount_95d88 [24] 60 ?_
  refine go_loc (lv' := [(0, .long ((lN x1 &&& 3689348814741910323) + (((lN x1).toUInt64 >>> ((2 : Int32).toInt64.toUInt64 &&& Int64.toUInt64 63)).toInt64 &&& 3689348814741910323)))]) ⟨rfl, trivial⟩ ?_
  rw [E2]
  refine Go.of hX.2 ck_J13_bitCount_95d88 [34] 60 ?_
  refine go_loc (lv' := [(0, .long ((lN x2 + ((lN x2).toUInt64 >>> ((4 : Int32).toInt64.toUInt64 &&& Int64.toUInt64 63)).toInt64) &&& 1085102592571150095))]) ⟨rfl, trivial⟩ ?_
  rw [E3]
  refine Go.of hX.2 ck_J13_bitCount_95d88 [41] 60 ?_
  refine go_loc (lv' := [(0, .long (lN x3 + ((lN x3).toUInt64 >>> ((8 : Int32).toInt64.toUInt64 &&& Int64.toUInt64 63)).toInt64))]) ⟨rfl, trivial⟩ ?_
  rw [E4]
  refine Go.of hX.2 ck_J13_bitCount_95d88 [48] 60 ?_
  refine go_loc (lv' := [(0, .long (lN x4 + ((lN x4).toUInt64 >>> ((16 : Int32).toInt64.toUInt64 &&& Int64.toUInt64 63)).toInt64))]) ⟨rfl, trivial⟩ ?_
  rw [E5]
  refine Go.of hX.2 ck_J13_bitCount_95d88 [55] 60 ?_
  refine go_loc (lv' := [(0, .long (lN x5 + ((lN x5).toUInt64 >>> ((32 : Int32).toInt64.toUInt64 &&& Int64.toUInt64 63)).toInt64))]) ⟨rfl, trivial⟩ ?_
  rw [E6]
  refine Go.of hX.2 ck_J13_bitCount_95d88 [] 60 ?_
  refine And.intro rfl ?_
  show Post (some (.int ((lN (x5 + x5 / 4294967296)).toInt32 &&& 127))) h nx
  rw [lN_i, show (127 : Int32) = nI (2 ^ 7 - 1) from rfl, nx_and, Nat.and_two_pow_sub_one_eq_mod, show (2 ^ 7 : Nat) = 128 from rfl, s4]
  exact hP
