/-! small pieces of huts -/
theorem nI_sub {a b : Nat} (h : b ≤ a) : nI a - nI b = nI (a - b) := by
  obtain ⟨c, rfl⟩ := Nat.exists_eq_add_of_le' h
  rw [← nI_add, Int32.add_sub_cancel, Nat.add_sub_cancel]
theorem nI_mul (a b : Nat) : nI a * nI b = nI (a * b) := (Int32.ofNat_mul a b).symm
theorem tb_lt {a k : Nat} (h : a < 2 ^ k) {i : Nat} (hi : k ≤ i) : a.testBit i = false := tb_big h hi
/-- a thing's contact: of a relay (10 and up) or an input -/
def thv (tr : Nat → Bool) (on up of : Nat) : Bool := if 10 ≤ of then up.testBit (of - 10) else (on.testBit of ^^ tr of)
set_option maxHeartbeats 2000000 in
theorem c_isThing {l : Launch} {G : GG} {h : AH} {nx : Nat} {Post : Option Value → AH → Nat → Prop} {o q of on up d : Nat} {n : Bool} {tr : Nat → Bool} {trk : Nat → Int32} {fs : List Value} (hX : XC G ∧ TX l G) (ho : h o = some (.inr (12, fs))) (f22 : fs[22]? = some (.ref q)) (hq : h q = some (.inl (3, 25, .inl trk))) (hof : of < 5 ∨ (10 ≤ of ∧ of < 16)) (hon : on < 2 ^ 31) (hup : up < 2 ^ 31) (hd : d < 5) (ht : of < 5 → trk (5 * d + of) = nI (tr of).toNat) (hP : Post (some (.int (nI (thv tr on up of ^^ n).toNat))) h nx) : Runs l G i_X12_isThing 0 0 [.ref o, .int (nI of), .int (nI n.toNat), .int (nI on), .int (nI up), .int (nI d)] h nx Post := by
  have hP2 : ∀ v : Bool, v = (thv tr on up of ^^ n) → Post (some (.int (nI v.toNat))) h nx := fun v hv => hv ▸ hP
  refine en_X12_isThing hX [] 80 rfl ?_
  by_cases h10 : 10 ≤ of
  · have et : thv tr on up of = up.testBit (of - 10) := if_pos h10
    rw [et] at hP2
    have e : (nI up >>> ((nI of - 10) &&& 31)) &&& 1 = nI (up.testBit (of - 10)).toNat := by rw [show (10 : Int32) = nI 10 from rfl, nI_sub h10]; exact nx_tb hup (by omega)
    refine And.intro (fun c => absurd c (nI_nlt h10 (by omega))) (fun _ => ?_)
    cases hb : up.testBit (of - 10)
    · rw [hb] at e hP2
      refine And.intro (fun _ => ?_) (fun c => absurd (e.symm.trans c) (by decide))
      cases n
      · refine And.intro (fun _ => ?_) (fun cz => absurd (by decide) cz)
        exact And.intro rfl (hP2 false rfl)
      · refine And.intro (fun cz => absurd cz (by decide)) (fun _ => ?_)
        exact And.intro rfl (hP2 true rfl)
    · rw [hb] at e hP2
      refine And.intro (fun c => absurd e c) (fun _ => ?_)
      cases n
      · refine And.intro (fun cz => absurd cz (by decide)) (fun _ => ?_)
        exact And.intro rfl (hP2 true rfl)
      · refine And.intro (fun _ => ?_) (fun cz => absurd (by decide) cz)
        exact And.intro rfl (hP2 false rfl)
  · have et : thv tr on up of = (on.testBit of ^^ tr of) := if_neg h10
    rw [et] at hP2
    have ho5 : of < 5 := by omega
    have e : (nI on >>> (nI of &&& 31)) &&& 1 = nI (on.testBit of).toNat := nx_tb hon (by omega)
    have ei : (5 : Int32) * nI d + nI of = nI (5 * d + of) := by rw [show (5 : Int32) = nI 5 from rfl, nI_mul, nI_add]
    refine And.intro (fun _ => ?_) (fun c => absurd (nI_lt (b := 10) (by omega) (by decide)) c)
    cases hb : on.testBit of
    · rw [hb] at e hP2
      refine And.intro (fun _ => ?_) (fun c => absurd (e.symm.trans c) (by decide))
      refine Exists.intro _ (And.intro ho (Exists.intro _ (And.intro f22 ?_)))
      refine Exists.intro 3 (Exists.intro _ (Exists.intro _ (And.intro hq (And.intro (Or.inr rfl) (And.intro (by rw [ei]; exact vp_in_nI (by omega) (by decide)) ?_)))))
      rw [ei, nI_clamp (by omega), ht ho5]
      cases htr : tr of
      · rw [htr] at hP2
        refine And.intro (fun _ => ?_) (fun cz => absurd (by decide) cz)
        cases n
        · refine And.intro (fun _ => ?_) (fun cz => absurd (by decide) cz)
          exact And.intro rfl (hP2 false rfl)
        · refine And.intro (fun cz => absurd cz (by decide)) (fun _ => ?_)
          exact And.intro rfl (hP2 true rfl)
      · rw [htr] at hP2
        refine And.intro (fun cz => absurd cz (by decide)) (fun _ => ?_)
        cases n
        · refine And.intro (fun cz => absurd cz (by decide)) (fun _ => ?_)
          exact And.intro rfl (hP2 true rfl)
        · refine And.intro (fun _ => ?_) (fun cz => absurd (by decide) cz)
          exact And.intro rfl (hP2 false rfl)
    · rw [hb] at e hP2
      refine And.intro (fun c => absurd e c) (fun _ => ?_)
      refine Exists.intro _ (And.intro ho (Exists.intro _ (And.intro f22 ?_)))
      refine Exists.intro 3 (Exists.intro _ (Exists.intro _ (And.intro hq (And.intro (Or.inr rfl) (And.intro (by rw [ei]; exact vp_in_nI (by omega) (by decide)) ?_)))))
      rw [ei, nI_clamp (by omega), ht ho5]
      cases htr : tr of
      · rw [htr] at hP2
        refine And.intro (fun cz => absurd cz (by decide)) (fun _ => ?_)
        cases n
        · refine And.intro (fun cz => absurd cz (by decide)) (fun _ => ?_)
          exact And.intro rfl (hP2 true rfl)
        · refine And.intro (fun _ => ?_) (fun cz => absurd (by decide) cz)
          exact And.intro rfl (hP2 false rfl)
      · rw [htr] at hP2
        refine And.intro (fun _ => ?_) (fun cz => absurd (by decide) cz)
        cases n
        · refine And.intro (fun _ => ?_) (fun cz => absurd (by decide) cz)
          exact And.intro rfl (hP2 false rfl)
        · refine And.intro (fun cz => absurd cz (by decide)) (fun _ => ?_)
          exact And.intro rfl (hP2 true rfl)
set_option maxHeartbeats 2000000 in
theorem c_isCircuit {l : Launch} {G : GG} {h : AH} {nx : Nat} {Post : Option Value → AH → Nat → Prop} {o q24 q27 d k nR nL : Nat} {gR gL : Nat → Int32} {fs : List Value} (hX : XC G ∧ TX l G) (ho : h o = some (.inr (12, fs))) (f24 : fs[24]? = some (.ref q24)) (f27 : fs[27]? = some (.ref q27)) (h24 : h q24 = some (.inl (0, 5, .inl gR))) (h27 : h q27 = some (.inl (0, 5, .inl gL))) (hd : d < 5) (hk : k < 11) (hR : gR d = nI nR) (hL : gL d = nI nL) (hR6 : nR ≤ 6) (hL5 : nL ≤ 5) (hP : Post (some (.int (nI (if k < 6 then decide (k < nR) else decide (k < 6 + nL)).toNat))) h nx) : Runs l G i_X12_isCircuit 0 0 [.ref o, .int (nI d), .int (nI k)] h nx Post := by
  refine en_X12_isCircuit hX [] 60 rfl ?_
  by_cases h6 : k < 6
  · refine And.intro (fun c => absurd c (nI_ge (b := 6) h6 (by decide))) (fun _ => ?_)
    refine Exists.intro _ (And.intro ho (Exists.intro _ (And.intro f24 ?_)))
    refine Exists.intro _ (Exists.intro _ (And.intro h24 (And.intro (vp_in_nI hd (by decide)) ?_)))
    rw [nI_clamp (by omega), hR]
    rw [if_pos h6] at hP
    by_cases hr : k < nR
    · rw [decide_eq_true hr] at hP
      refine And.intro (fun c => absurd c (nI_ge hr (by omega))) (fun _ => ?_)
      exact And.intro rfl hP
    · rw [decide_eq_false hr] at hP
      refine And.intro (fun _ => ?_) (fun c => absurd (nI_le (by omega) (by omega)) c)
      exact And.intro rfl hP
  · refine And.intro (fun _ => ?_) (fun c => absurd (nI_le (a := 6) (by omega) (by omega)) c)
    refine Exists.intro _ (And.intro ho (Exists.intro _ (And.intro f27 ?_)))
    refine Exists.intro _ (Exists.intro _ (And.intro h27 (And.intro (vp_in_nI hd (by decide)) ?_)))
    rw [nI_clamp (by omega), hL]
    rw [if_neg h6] at hP
    have es : nI k - 6 = nI (k - 6) := nI_sub (b := 6) (by omega)
    by_cases hr : k < 6 + nL
    · rw [decide_eq_true hr] at hP
      refine And.intro (fun c => absurd c (by rw [es]; exact nI_ge (by omega) (by omega))) (fun _ => ?_)
      exact And.intro rfl hP
    · rw [decide_eq_false hr] at hP
      refine And.intro (fun _ => ?_) (fun c => absurd (show nI nL ≤ nI k - 6 by rw [es]; exact nI_le (by omega) (by omega)) c)
      exact And.intro rfl hP
set_option maxHeartbeats 2000000 in
theorem c_all {l : Launch} {G : GG} {h : AH} {nx : Nat} {Post : Option Value → AH → Nat → Prop} {o k : Nat} (hX : XC G ∧ TX l G) (hk : k < 31) (hP : Post (some (.int (nI (2 ^ k - 1)))) h nx) : Runs l G i_X12_all 0 0 [.ref o, .int (nI k)] h nx Post := by
  refine en_X12_all hX [] 60 rfl ?_
  rw [← nI_sub (Nat.one_le_two_pow)] at hP
  rw [← nx_pow (by omega)] at hP
  exact And.intro rfl hP
/-- a word's relays with those that are stuck -/
def plc (st su up : Nat) : Nat := (up ^^^ (up &&& st)) ||| su
set_option maxHeartbeats 2000000 in
theorem c_placed {l : Launch} {G : GG} {h : AH} {nx : Nat} {Post : Option Value → AH → Nat → Prop} {o q66 q67 hh up st su : Nat} {gs gu : Nat → Int32} {fs : List Value} (hX : XC G ∧ TX l G) (ho : h o = some (.inr (12, fs))) (f66 : fs[66]? = some (.ref q66)) (f67 : fs[67]? = some (.ref q67)) (h66 : h q66 = some (.inl (0, 2, .inl gs))) (h67 : h q67 = some (.inl (0, 2, .inl gu))) (hh2 : hh < 2) (hs : gs hh = nI st) (hu : gu hh = nI su) (hP : Post (some (.int (nI (plc st su up)))) h nx) : Runs l G i_X12_placed 0 0 [.ref o, .int (nI hh), .int (nI up)] h nx Post := by
  refine en_X12_placed hX [] 60 rfl ?_
  refine Exists.intro _ (And.intro ho (Exists.intro _ (And.intro f66 ?_)))
  refine Exists.intro _ (Exists.intro _ (And.intro h66 (And.intro (vp_in_nI hh2 (by decide)) ?_)))
  rw [nI_clamp (by omega), hs]
  refine Exists.intro _ (And.intro ho (Exists.intro _ (And.intro f67 ?_)))
  refine Exists.intro _ (Exists.intro _ (And.intro h67 (And.intro (vp_in_nI hh2 (by decide)) ?_)))
  rw [nI_clamp (by omega), hu]
  unfold plc at hP
  rw [← nx_or, ← nx_andn] at hP
  exact And.intro rfl hP
set_option maxHeartbeats 2000000 in
theorem c_behind {l : Launch} {G : GG} {h : AH} {nx : Nat} {Post : Option Value → AH → Nat → Prop} {o q hh on up : Nat} {g : Nat → Int32} {fs : List Value} (hX : XC G ∧ TX l G) (ho : h o = some (.inr (12, fs))) (f65 : fs[65]? = some (.ref q)) (hq : h q = some (.inl (0, 4096, .inl g))) (hi : 2048 * hh + 64 * on + up < 4096) (hP : Post (some (.int (g (2048 * hh + 64 * on + up)))) h nx) : Runs l G i_X12_behind 0 0 [.ref o, .int (nI hh), .int (nI on), .int (nI up)] h nx Post := by
  refine en_X12_behind hX [] 60 rfl ?_
  have ei : (2048 : Int32) * nI hh + 64 * nI on + nI up = nI (2048 * hh + 64 * on + up) := by rw [show (2048 : Int32) = nI 2048 from rfl, show (64 : Int32) = nI 64 from rfl, nI_mul, nI_mul, nI_add, nI_add]
  refine Exists.intro _ (And.intro ho (Exists.intro _ (And.intro f65 ?_)))
  refine Exists.intro _ (Exists.intro _ (And.intro hq (And.intro (by rw [ei]; exact vp_in_nI hi (by decide)) ?_)))
  rw [ei, nI_clamp (by omega)]
  exact And.intro rfl hP
set_option maxHeartbeats 2000000 in
theorem c_lampsAtM {l : Launch} {G : GG} {h : AH} {nx : Nat} {Post : Option Value → AH → Nat → Prop} {o q hh on up v : Nat} {g : Nat → Int32} {fs : List Value} (hX : XC G ∧ TX l G) (ho : h o = some (.inr (12, fs))) (f64 : fs[64]? = some (.ref q)) (hq : h q = some (.inl (0, 4096, .inl g))) (hi : 2048 * hh + 64 * on + up < 4096) (hv : g (2048 * hh + 64 * on + up) = nI v) (hv2 : v < 2 ^ 31) (hP : Post (some (.int (nI (v >>> 6)))) h nx) : Runs l G i_X12_lampsAt 0 0 [.ref o, .int (nI hh), .int (nI on), .int (nI up)] h nx Post := by
  refine en_X12_lampsAt hX [] 60 rfl ?_
  have ei : (2048 : Int32) * nI hh + 64 * nI on + nI up = nI (2048 * hh + 64 * on + up) := by rw [show (2048 : Int32) = nI 2048 from rfl, show (64 : Int32) = nI 64 from rfl, nI_mul, nI_mul, nI_add, nI_add]
  refine Exists.intro _ (And.intro ho (Exists.intro _ (And.intro f64 ?_)))
  refine Exists.intro _ (Exists.intro _ (And.intro hq (And.intro (by rw [ei]; exact vp_in_nI hi (by decide)) ?_)))
  rw [ei, nI_clamp (by omega), hv]
  rw [← nx_shr hv2 (by decide)] at hP
  exact And.intro rfl hP
set_option maxHeartbeats 2000000 in
theorem c_isClosed {l : Launch} {G : GG} {h : AH} {nx : Nat} {Post : Option Value → AH → Nat → Prop} {w q1 q3 N k x v : Nat} {iv : Bool} {g1 g3 : Nat → Int32} {fs : List Value} (hX : XC G ∧ TX l G) (hw : h w = some (.inr (10, fs))) (f0 : fs[0]? = some (.int (nI N))) (f1 : fs[1]? = some (.ref q1)) (f3 : fs[3]? = some (.ref q3)) (h1 : h q1 = some (.inl (0, N, .inl g1))) (h3 : h q3 = some (.inl (0, N, .inl g3))) (hN : N ≤ 400) (hk : k < N) (hx : x < 2 ^ 31) (hv : v < 31) (e1 : g1 k = nI v) (e3 : g3 k = nI iv.toNat) (hP : Post (some (.int (nI (x.testBit v ^^ iv).toNat))) h nx) : Runs l G i_X10_isClosed 0 0 [.ref w, .int (nI k), .int (nI x)] h nx Post := by
  refine en_X10_isClosed hX [] 60 rfl ?_
  refine And.intro (fun c => absurd c (nI_pos (by omega))) (fun _ => ?_)
  refine Exists.intro _ (And.intro hw (Exists.intro _ (And.intro f0 ?_)))
  refine And.intro (fun c => absurd c (nI_ge hk (by omega))) (fun _ => ?_)
  refine Exists.intro _ (And.intro hw (Exists.intro _ (And.intro f1 ?_)))
  refine Exists.intro _ (Exists.intro _ (And.intro h1 (And.intro (vp_in_nI hk (by omega)) ?_)))
  rw [nI_clamp (by omega), e1]
  refine Exists.intro _ (And.intro hw (Exists.intro _ (And.intro f3 ?_)))
  refine Exists.intro _ (Exists.intro _ (And.intro h3 (And.intro (vp_in_nI hk (by omega)) ?_)))
  rw [nI_clamp (by omega), e3]
  have e : (nI x >>> (nI v &&& 31)) &&& 1 = nI (x.testBit v).toNat := nx_tb hx (by omega)
  cases hb : x.testBit v
  · rw [hb] at e hP
    cases iv
    · refine And.intro (fun _ => ?_) (fun c => absurd e c)
      exact And.intro rfl hP
    · refine And.intro (fun c => absurd (e.symm.trans c) (by decide)) (fun _ => ?_)
      exact And.intro rfl hP
  · rw [hb] at e hP
    cases iv
    · refine And.intro (fun c => absurd (e.symm.trans c) (by decide)) (fun _ => ?_)
      exact And.intro rfl hP
    · refine And.intro (fun _ => ?_) (fun c => absurd e c)
      exact And.intro rfl hP
