/-! the model's least test -/
def fLt (k : Nat) : Bool := decide (k = 77 ∨ k = 81 ∨ k = 82)
/-- what a search for a test leaves -/
def MLs (h : AH) (o : Nat) (fs : List Value) (h1 : AH) (fs1 : List Value) : Prop := MA h1 o fs1 ∧ SHm h1 o ∧ (∀ k, fLt k = false → fs1[k]? = fs[k]?) ∧ (∀ a, (a < o ∨ (o < a ∧ a < o + 1 + 49) ∨ o + 1 + 53 ≤ a) → h1 a = h a)
theorem MLs.rf {h : AH} {o : Nat} {fs : List Value} (hM : MA h o fs) (hS : SHm h o) : MLs h o fs h fs := ⟨hM, hS, fun _ _ => rfl, fun _ _ => rfl⟩
theorem MLs.tr {h h1 h2 : AH} {o : Nat} {fs fs1 fs2 : List Value} (a : MLs h o fs h1 fs1) (b : MLs h1 o fs1 h2 fs2) : MLs h o fs h2 fs2 := ⟨b.1, b.2.1, fun k hk => (b.2.2.1 k hk).trans (a.2.2.1 k hk), fun x hx => (b.2.2.2 x hx).trans (a.2.2.2 x hx)⟩
theorem rfM_no5 : ∀ j, j < 63 → rfM j ≠ 77 ∧ rfM j ≠ 81 ∧ rfM j ≠ 82 := by decide +kernel
theorem MLs.set {h h1 : AH} {o k : Nat} {fs fs1 : List Value} {v : Value} (a : MLs h o fs h1 fs1) (hk : k = 77 ∨ k = 81 ∨ k = 82) : MLs h o fs (uph h1 o (.inr (12, fs1.set k v))) (fs1.set k v) := by
  obtain ⟨⟨a1, a2, a3⟩, b, c, d⟩ := a
  refine ⟨⟨uph_eq, by rw [List.length_set]; exact a2, fun j hj => ?_⟩, b.obj, fun i hi => ?_, fun x hx => (uph_ne (by omega)).trans (d x hx)⟩
  · have := rfM_no5 j hj
    rw [get_set_ne (by omega)]
    exact a3 j hj
  · rw [get_set_ne (fun z => by rw [← z] at hi; rcases hk with rfl | rfl | rfl <;> cases hi)]
    exact c i hi
theorem MLs.row {h h1 : AH} {o j n : Nat} {fs fs1 : List Value} {g : Nat → Int32} (a : MLs h o fs h1 fs1) (hj : 49 ≤ j ∧ j < 53) (hn : tyL.getD j (0, 0) = (0, n)) : MLs h o fs (uph h1 (o + 1 + j) (.inl (0, n, .inl g))) fs1 := by
  obtain ⟨a1, b, c, d⟩ := a
  refine ⟨a1.keep (uph_ne (by omega)), b.upd (fun i hi => ?_), c, fun x hx => (uph_ne (by omega)).trans (d x hx)⟩
  by_cases e : i = j
  · right
    rw [e, uph_eq]
    exact rowS_i (by decide) hn ⟨g, rfl⟩
  · left
    exact uph_ne (by omega)
theorem MLs.len {h h1 : AH} {o : Nat} {fs fs1 : List Value} (a : MLs h o fs h1 fs1) : fs1.length = 99 := a.1.2.1
theorem MLs.f {h h1 : AH} {o : Nat} {fs fs1 : List Value} (a : MLs h o fs h1 fs1) {k : Nat} {v : Value} (hk : fLt k = false) (e : fs[k]? = some v) : fs1[k]? = some v := (a.2.2.1 k hk).trans e
theorem MLs.hb {h h1 : AH} {o hh : Nat} {q : HKy} {fs fs1 : List Value} (a : MLs h o fs h1 fs1) (hB : HB h o hh q) : HB h1 o hh q := hB.ag (fun j _ _ => a.2.2.2 _ (by omega))
theorem MLs.pg {h h1 : AH} {o d : Nat} {fs fs1 : List Value} {D : DD} (a : MLs h o fs h1 fs1) (hD : MPg h o d D) : MPg h1 o d D := hD.ag (fun j hj => a.2.2.2 _ (by omega))
/-- the rows of the search -/
def ME (h : AH) (o st : Nat) (S : BS) (fs : List Value) : Prop := ∃ gt gf gs : Nat → Int32, h (o + 1 + 49) = some (.inl (0, 131072, .inl gt)) ∧ h (o + 1 + 50) = some (.inl (0, 131072, .inl gf)) ∧ h (o + 1 + 51) = some (.inl (0, 131072, .inl gs)) ∧ fs[77]? = some (.int (nI S.1)) ∧ fs[81]? = some (.int (nI st)) ∧ (∀ j, j < S.1 → gt j = nI (S.2.1 j) ∧ (0 < j → gf j = nI (S.2.2.1 j).1)) ∧ (0 < S.1 → gf 0 = -1) ∧ ∀ y, y < 131072 → (gs y = nI st ↔ memB S.2.1 y S.1 = true) ∧ ∃ m, m ≤ st ∧ gs y = nI m
set_option maxHeartbeats 8000000 in
theorem m_joins {l : Launch} {G : GG} {h : AH} {nx : Nat} {Post : Option Value → AH → Nat → Prop} {o st y k i : Nat} {k1 : Int32} {S : BS} {fs0 fs : List Value} {h0 : AH} (hX : XC G ∧ TX l G) (hM : MLs h0 o fs0 h fs) (hE : ME h o st S fs) (hy : y < 131072) (hk : (S.1 = 0 ∧ k1 = -1) ∨ (0 < S.1 ∧ k1 = nI k)) (hle : (bAdd S y k i).1 ≤ 131072) (hP : ∀ (h1 : AH) (fs1 : List Value), MLs h0 o fs0 h1 fs1 → fs1[82]? = fs[82]? → ME h1 o st (bAdd S y k i) fs1 → Post none h1 nx) : Runs l G i_X12_joins 0 0 [.ref o, .int (nI y), .int k1] h nx Post := by
  obtain ⟨gt, gf, gs, e49, e50, e51, f77, f81, r1, r2, r3⟩ := hE
  obtain ⟨s1, m, sm, sg_⟩ := r3 y hy
  refine en_X12_joins hX [] 80 rfl ?_
  refine Exists.intro _ (And.intro hM.1.1 (Exists.intro _ (And.intro (hM.1.2.2 51 (by decide)) ?_)))
  refine Exists.intro _ (Exists.intro _ (And.intro e51 (And.intro (vp_in_nI hy (by decide)) ?_)))
  refine Exists.intro _ (And.intro hM.1.1 (Exists.intro _ (And.intro f81 ?_)))
  rw [nI_clamp (show y < 2 ^ 31 by omega)]
  cases hm : memB S.2.1 y S.1 with
  | true =>
    rw [hm] at s1
    refine And.intro (fun cz => absurd (s1.mpr rfl) cz) (fun _ => ?_)
    have e9 : bAdd S y k i = S := by unfold bAdd; rw [if_pos hm]
    rw [e9] at hP
    exact hP h fs hM rfl ⟨gt, gf, gs, e49, e50, e51, f77, f81, r1, r2, r3⟩
  | false =>
    rw [hm] at s1
    refine And.intro (fun _ => ?_) (fun cz => absurd cz (fun z => absurd (s1.mp z) (by decide)))
    have e9 : bAdd S y k i = (S.1 + 1, upN S.2.1 S.1 y, upP S.2.2.1 S.1 (k, i), S.2.2.2) := by unfold bAdd; rw [if_neg (by rw [hm]; decide)]
    rw [e9] at hle hP
    have hle2 : S.1 + 1 ≤ 131072 := hle
    refine Exists.intro _ (And.intro hM.1.1 (Exists.intro _ (And.intro (hM.1.2.2 51 (by decide)) ?_)))
    refine Exists.intro _ (And.intro hM.1.1 (Exists.intro _ (And.intro f81 ?_)))
    refine Exists.intro _ (Exists.intro _ (And.intro e51 (And.intro (vp_in_nI hy (by decide)) ?_)))
    rw [nI_clamp (show y < 2 ^ 31 by omega)]
    have R1 := hM.row (j := 51) (g := upd gs y (nI st)) (by omega) rfl
    refine Exists.intro _ (And.intro R1.1.1 (Exists.intro _ (And.intro (R1.1.2.2 49 (by decide)) ?_)))
    refine Exists.intro _ (And.intro R1.1.1 (Exists.intro _ (And.intro f77 ?_)))
    refine Exists.intro _ (Exists.intro _ (And.intro ((uph_ne (by omega)).trans e49) (And.intro (vp_in_nI (n := S.1) (by omega) (by decide)) ?_)))
    rw [nI_clamp (show S.1 < 2 ^ 31 by omega)]
    have R2 := R1.row (j := 49) (g := upd gt S.1 (nI y)) (by omega) rfl
    refine Exists.intro _ (And.intro R2.1.1 (Exists.intro _ (And.intro (R2.1.2.2 50 (by decide)) ?_)))
    refine Exists.intro _ (And.intro R2.1.1 (Exists.intro _ (And.intro f77 ?_)))
    refine Exists.intro _ (Exists.intro _ (And.intro ((uph_ne (by omega)).trans ((uph_ne (by omega)).trans e50)) (And.intro (vp_in_nI (n := S.1) (by omega) (by decide)) ?_)))
    rw [nI_clamp (show S.1 < 2 ^ 31 by omega)]
    have R3 := R2.row (j := 50) (g := upd gf S.1 k1) (by omega) rfl
    refine Exists.intro _ (And.intro R3.1.1 (Exists.intro _ (And.intro f77 ?_)))
    refine Exists.intro _ (And.intro R3.1.1 (And.intro (by have := R3.len; omega) (And.intro rfl (And.intro rfl ?_))))
    have R4 := R3.set (k := 77) (v := .int (nI S.1 + 1)) (Or.inl rfl)
    refine hP _ _ R4 (get_set_ne (by decide)) ⟨upd gt S.1 (nI y), upd gf S.1 k1, upd gs y (nI st), ?_, ?_, ?_, ?_, ?_, ?_, ?_, ?_⟩
    · rw [uph_ne (by omega), uph_ne (by omega), uph_eq]
    · rw [uph_ne (by omega), uph_eq]
    · rw [uph_ne (by omega), uph_ne (by omega), uph_ne (by omega), uph_eq]
    · rw [show nI S.1 + 1 = nI (S.1 + 1) from (nI_succ _).symm]
      exact get_set (by have := R3.len; omega)
    · rw [get_set_ne (by decide)]; exact f81
    · intro j hj
      have hj2 : j < S.1 + 1 := hj
      show upd gt S.1 (nI y) j = nI (upN S.2.1 S.1 y j) ∧ (0 < j → upd gf S.1 k1 j = nI (upP S.2.2.1 S.1 (k, i) j).1)
      by_cases e : j = S.1
      · rw [e, pk_us, upN_s, pk_us, show upP S.2.2.1 S.1 (k, i) S.1 = (k, i) from if_pos rfl]
        refine ⟨rfl, fun h0 => ?_⟩
        rcases hk with ⟨z, _⟩ | ⟨_, z⟩
        · omega
        · exact z
      · rw [pk_un e, pk_un e, upN_n e, show upP S.2.2.1 S.1 (k, i) j = S.2.2.1 j from if_neg e]
        exact r1 j (by omega)
    · intro _
      by_cases e : 0 = S.1
      · rw [e, pk_us]
        rcases hk with ⟨_, z⟩ | ⟨z, _⟩
        · exact z
        · omega
      · rw [pk_un e]
        exact r2 (by omega)
    · intro y2 hy2
      show (upd gs y (nI st) y2 = nI st ↔ memB (upN S.2.1 S.1 y) y2 (S.1 + 1) = true) ∧ ∃ m, m ≤ st ∧ upd gs y (nI st) y2 = nI m
      rw [memB_up]
      by_cases e : y2 = y
      · rw [e, pk_us, decide_eq_true rfl, Bool.true_or]
        exact ⟨⟨fun _ => rfl, fun _ => rfl⟩, st, Nat.le_refl _, rfl⟩
      · rw [pk_un e, decide_eq_false (show ¬ y = y2 from fun z => e z.symm), Bool.false_or]
        exact r3 y2 hy2
set_option maxHeartbeats 8000000 in
theorem m_seen {l : Launch} {G : GG} {h : AH} {nx : Nat} {Post : Option Value → AH → Nat → Prop} {o on f : Nat} {D : DD} {av bv : Int32} {fs : List Value} (hX : XC G ∧ TX l G) (hM : MA h o fs) (hw : WD D) (hf : okW D (some f)) (hB0 : HB h o 0 (tq0 D)) (hB1 : HB h o 1 (tq1 D f)) (hon : on < 2 ^ dI D) (hav : stA D av) (hbv : stA D bv) (hP : Post (some (.int (nI (tLk D f on av bv)))) h nx) : Runs l G i_X12_seen 0 0 [.ref o, .int (nI on), .int av, .int bv] h nx Post := by
  have hpr := hw.pr
  have hpi := hw.pi
  obtain ⟨q0, q1⟩ := tq_ok hw hf
  unfold tLk at hP
  refine en_X12_seen hX [] 80 rfl ?_
  rcases hav with rfl | ⟨s, hs, rfl⟩
  · refine And.intro (fun cz => by first | exact absurd cz (by decide) | exact absurd (by decide) cz) (fun _ => ?_)
    rw [if_pos rfl] at hP
    rcases hbv with rfl | ⟨s2, hs2, rfl⟩
    · refine And.intro (fun cz => by first | exact absurd cz (by decide) | exact absurd (by decide) cz) (fun _ => ?_)
      rw [if_pos rfl] at hP
      exact And.intro rfl (hP)
    · refine And.intro (fun _ => ?_) (fun cz => absurd cz ((nI_n2 (show s2 < 64 by omega)).1))
      refine And.intro (fun _ => ?_) (fun cz => by first | exact absurd cz (by decide) | exact absurd (by decide) cz)
      rw [if_neg (nI_n2 (show s2 < 64 by omega)).1] at hP
      exact And.intro rfl (hP)
  · refine And.intro (fun _ => ?_) (fun cz => absurd cz ((nI_n2 (show s < 64 by omega)).1))
    refine And.intro (fun cz => absurd cz ((nI_n2 (show s < 64 by omega)).1)) (fun _ => ?_)
    rw [if_neg (nI_n2 (show s < 64 by omega)).1] at hP
    rcases hbv with rfl | ⟨s2, hs2, rfl⟩
    · refine And.intro (fun cz => by first | exact absurd cz (by decide) | exact absurd (by decide) cz) (fun _ => ?_)
      rw [if_pos rfl] at hP
      exact And.intro rfl (hP)
    · refine And.intro (fun _ => ?_) (fun cz => absurd cz ((nI_n2 (show s2 < 64 by omega)).1))
      rw [if_neg (nI_n2 (show s2 < 64 by omega)).1, nI_clamp (by omega), nI_clamp (by omega)] at hP
      refine Exists.intro _ (And.intro hM.1 (Exists.intro 0 (Exists.intro 0 (And.intro (Nat.le_refl _) (And.intro (Nat.le_refl _) (m_lampsAt (hh := 0) hX hM (by decide) q0 hB0 hon hs ?_))))))
      refine Exists.intro _ (And.intro hM.1 (Exists.intro 0 (Exists.intro 0 (And.intro (Nat.le_refl _) (And.intro (Nat.le_refl _) (m_lampsAt (hh := 1) hX hM (by decide) q1 hB1 hon hs2 ?_))))))
      have l0 := kSh_lt (tq0 D) on s
      have l1 := kSh_lt (tq1 D f) on s2
      by_cases c1 : kSh (tq0 D) on s >>> 6 = kSh (tq1 D f) on s2 >>> 6
      · refine And.intro (fun cz => absurd (show nI (kSh (tq0 D) on s >>> 6) = nI (kSh (tq1 D f) on s2 >>> 6) from by rw [c1]) cz) (fun _ => ?_)
        rw [if_pos c1] at hP
        exact And.intro rfl (hP)
      · refine And.intro (fun _ => ?_) (fun cz => absurd cz (fun z => c1 ((nI_eq (by rw [Nat.shiftRight_eq_div_pow]; omega) (by rw [Nat.shiftRight_eq_div_pow]; omega)).mp z)))
        rw [if_neg c1] at hP
        exact And.intro rfl (hP)
set_option maxHeartbeats 8000000 in
theorem m_deep {l : Launch} {G : GG} {h : AH} {nx : Nat} {Post : Option Value → AH → Nat → Prop} {o st k f : Nat} {D : DD} {S : BS} {fs : List Value} (hX : XC G ∧ TX l G) (hM : MA h o fs) (hE : ME h o st S fs) (hw : WD D) (hI : TIn D f S) (hk : k < S.1) (hP : Post (some (.int (nI (tD S k)))) h nx) : Runs l G i_X12_deep 0 0 [.ref o, .int (nI k)] h nx Post := by
  obtain ⟨gt, gf, gs, e49, e50, e51, f77, f81, r1, r2, r3⟩ := hE
  have hSle := hI.le hw
  have loop : ∀ (n j m : Nat), tD S j = n → j < S.1 → m + n = tD S k → Go l G 12 s_X12_deep 0 0 Post 4 [(3, .int (nI j)), (2, .int (nI m)), (0, .ref o), (1, .int (nI k))] [] h nx 0 0 := by
    intro n
    induction n with
    | zero =>
      intro j m hn hj hm
      have e : j = 0 := by
        rcases Nat.eq_zero_or_pos j with z | z
        · exact z
        · have := dpF_s (fr := fun i => (S.2.2.1 i).1) hI.fr z hj
          unfold tD at hn
          omega
      subst e
      refine Go.of hX.2 ck_X12_deep [4] 30 ?_
      refine Exists.intro _ (And.intro hM.1 (Exists.intro _ (And.intro (hM.2.2 50 (by decide)) ?_)))
      refine Exists.intro _ (Exists.intro _ (And.intro e50 (And.intro (vp_in_nI (by omega) (by decide)) ?_)))
      rw [nI_clamp (by omega), r2 (by omega)]
      refine And.intro (fun _ => ?_) (fun cz => by first | exact absurd cz (by decide) | exact absurd (by decide) cz)
      have hm2 : m = tD S k := by omega
      rw [← hm2] at hP
      exact And.intro rfl (hP)
    | succ n ih =>
      intro j m hn hj hm
      obtain ⟨p0, p1⟩ := tD_pos hI hj (by omega)
      have hfr := hI.fr j p0 hj
      refine Go.of hX.2 ck_X12_deep [4] 40 ?_
      refine Exists.intro _ (And.intro hM.1 (Exists.intro _ (And.intro (hM.2.2 50 (by decide)) ?_)))
      refine Exists.intro _ (Exists.intro _ (And.intro e50 (And.intro (vp_in_nI (by omega) (by decide)) ?_)))
      rw [nI_clamp (show j < 2 ^ 31 by omega), (r1 j hj).2 p0]
      refine And.intro (fun cz => absurd cz (fun z => absurd (show nI (S.2.2.1 j).1 < 0 from z ▸ (by decide)) (nI_pos (by omega)))) (fun _ => ?_)
      refine Exists.intro _ (And.intro hM.1 (Exists.intro _ (And.intro (hM.2.2 50 (by decide)) ?_)))
      refine Exists.intro _ (Exists.intro _ (And.intro e50 (And.intro (vp_in_nI (by omega) (by decide)) ?_)))
      rw [nI_clamp (show j < 2 ^ 31 by omega), (r1 j hj).2 p0]
      refine go_loc (lv' := [(3, .int (nI (S.2.2.1 j).1)), (2, .int (nI m + 1)), (0, .ref o), (1, .int (nI k))]) ⟨rfl, rfl, rfl, rfl, trivial⟩ ?_
      rw [← nI_succ]
      exact ih _ (m + 1) (by omega) (by omega) (by omega)
  refine en_X12_deep hX [4] 20 rfl ?_
  exact go_loc (lv' := [(3, .int (nI k)), (2, .int (nI 0)), (0, .ref o), (1, .int (nI k))]) ⟨rfl, rfl, rfl, rfl, trivial⟩ (loop (tD S k) k 0 rfl hk (Nat.zero_add _))
set_option maxHeartbeats 8000000 in
theorem m_actBetween {l : Launch} {G : GG} {h : AH} {nx : Nat} {Post : Option Value → AH → Nat → Prop} {a b i : Nat} (hX : XC G ∧ TX l G) (ha : a < 131072) (hb : b < 131072) (hi : i < 5) (he : b / 4096 = a / 4096 ^^^ 2 ^ i) (hP : Post (some (.int (nI i))) h nx) : Runs l G i_X12_actBetween 0 0 [.int (nI a), .int (nI b)] h nx Post := by
  have e1 : nI a / 4096 ^^^ nI b / 4096 = nI (2 ^ i) := by
    rw [show (4096 : Int32) = nI 4096 from rfl, pk_div (by omega) (by decide) (by decide), pk_div (by omega) (by decide) (by decide), nx_xor, he]
    congr 1
    rw [← Nat.xor_assoc, Nat.xor_self, Nat.zero_xor]
  have hp : 2 ^ i ≤ 16 := Nat.pow_le_pow_right (n := 2) (by decide) (show i ≤ 4 by omega)
  have e2 : ∀ j, j < 32 → nI (2 ^ i) >>> (nI j &&& 31) = nI (2 ^ i >>> j) := fun j hj => nx_shr (by omega) hj
  have hno : ∀ (j m : Nat), j + (m + 1) = i → ¬ nI (2 ^ i) >>> (nI j &&& 31) ≤ 1 := by
    intro j m hj
    have h2 : 2 ^ (m + 1) ≤ 16 := Nat.pow_le_pow_right (n := 2) (by decide) (show m + 1 ≤ 4 by omega)
    have h3 : 2 ^ 1 ≤ 2 ^ (m + 1) := Nat.pow_le_pow_right (n := 2) (by decide) (by omega)
    rw [e2 j (by omega), Nat.shiftRight_eq_div_pow, show i = j + (m + 1) by omega, Nat.pow_add, Nat.mul_div_cancel_left _ (Nat.two_pow_pos _), show (1 : Int32) = nI 1 from rfl]
    exact nI_ge (by omega) (by omega)
  have loop : ∀ (m j : Nat), j + m = i → Go l G 12 s_X12_actBetween 0 0 Post 14 [(3, .int (nI j)), (2, .int (nI (2 ^ i))), (0, .int (nI a)), (1, .int (nI b))] [] h nx 0 0 := by
    intro m
    induction m with
    | zero =>
      intro j hj
      have e : j = i := by omega
      subst e
      refine Go.of hX.2 ck_X12_actBetween [14] 20 ?_
      refine And.intro (fun _ => ?_) (fun cz => absurd (show nI (2 ^ j) >>> (nI j &&& 31) ≤ 1 from by rw [e2 j (by omega), Nat.shiftRight_eq_div_pow, Nat.div_self (Nat.two_pow_pos _)]; decide) cz)
      exact And.intro rfl (hP)
    | succ m ih =>
      intro j hj
      refine Go.of hX.2 ck_X12_actBetween [14] 20 ?_
      refine And.intro (fun cz => absurd cz (hno j m hj)) (fun _ => ?_)
      refine go_loc (lv' := [(3, .int (nI j + 1)), (2, .int (nI (2 ^ i))), (0, .int (nI a)), (1, .int (nI b))]) ⟨rfl, rfl, rfl, rfl, trivial⟩ ?_
      rw [← nI_succ]
      exact ih (j + 1) (by omega)
  refine en_X12_actBetween hX [14] 30 rfl ?_
  refine And.intro (by decide) ?_
  refine And.intro (by decide) ?_
  refine go_loc (lv' := [(3, .int (nI 0)), (2, .int (nI a / 4096 ^^^ nI b / 4096)), (0, .int (nI a)), (1, .int (nI b))]) ⟨rfl, rfl, rfl, rfl, trivial⟩ ?_
  rw [e1]
  exact loop i 0 (Nat.zero_add _)
