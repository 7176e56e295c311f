/-! plan and stage, the model -/
set_option maxHeartbeats 8000000 in
theorem m_bits {l : Launch} {G : GG} {h : AH} {nx : Nat} {Post : Option Value → AH → Nat → Prop} {v : Nat} (hX : XC G ∧ TX l G) (hv : v < 2048) (hP : Post (some (.int (nI (pqN v.testBit 11)))) h nx) : Runs l G i_X12_bits 0 0 [.int (nI v)] h nx Post := by
  have loop : ∀ (m c : Nat), c + m = 11 → Go l G 12 s_X12_bits 0 0 Post 4 [(2, .int (nI c)), (1, .int (nI (pqN v.testBit c))), (0, .int (nI v))] [] h nx 0 0 := by
    intro m
    induction m with
    | zero =>
      intro c hc
      have e : c = 11 := by omega
      subst e
      refine Go.of hX.2 ck_X12_bits [] 20 ?_
      refine And.intro (fun _ => ?_) (fun cz => by first | exact absurd cz (by decide) | exact absurd (by decide) cz)
      exact And.intro rfl (hP)
    | succ m ih =>
      intro c hc
      have := ih (c + 1) (by omega)
      rw [show pqN v.testBit (c + 1) = pqN v.testBit c + (v.testBit c).toNat from rfl, nI_succ c] at this
      refine Go.of hX.2 ck_X12_bits [4] 30 ?_
      refine And.intro (fun cz => absurd cz (nI_ge (a := c) (b := 11) (by omega) (by decide))) (fun _ => ?_)
      refine go_loc (lv' := [(2, .int (nI c + 1)), (1, .int (nI (pqN v.testBit c) + ((nI v >>> (nI c &&& 31)) &&& 1))), (0, .int (nI v))]) ⟨rfl, rfl, rfl, trivial⟩ ?_
      rw [nx_tb (by omega) (by omega), nI_add]
      exact this
  refine en_X12_bits hX [4] 20 rfl ?_
  exact go_loc (lv' := [(2, .int (nI 0)), (1, .int (nI 0)), (0, .int (nI v))]) ⟨rfl, rfl, rfl, trivial⟩ (loop 11 0 (Nat.zero_add _))
theorem nsub {m u : Nat} (hm : m < 2 ^ 31) : (nI m &&& (nI u ^^^ (-1))) = 0 ↔ ∀ i, m.testBit i = true → u.testBit i = true := by
  have hlt : m ^^^ (m &&& u) < 2 ^ 31 := Nat.xor_lt_two_pow hm (Nat.lt_of_le_of_lt Nat.and_le_left hm)
  rw [nx_andn, show (0 : Int32) = nI 0 from rfl, nI_eq hlt (by decide), ← and_sub]
  constructor
  · intro z
    exact (xz_iff.mp z).symm
  · intro z
    rw [z, Nat.xor_self]
/-- what plan leaves in the model -/
def MPn (h : AH) (o : Nat) (fs : List Value) (h1 : AH) (fs1 : List Value) : Prop := MA h1 o fs1 ∧ SHm h1 o ∧ (∀ k, fHut k = false → fs1[k]? = fs[k]?) ∧ (∀ a, (a < o ∨ (o < a ∧ a < o + 1 + 35) ∨ (o + 1 + 49 ≤ a ∧ a < o + 1 + 55) ∨ o + 1 + 57 ≤ a) → h1 a = h a)
theorem MPn.rf {h : AH} {o : Nat} {fs : List Value} (hM : MA h o fs) (hS : SHm h o) : MPn h o fs h fs := ⟨hM, hS, fun _ _ => rfl, fun _ _ => rfl⟩
theorem MH.pn {h h1 : AH} {o : Nat} {fs fs1 : List Value} (a : MH h o fs h1 fs1) : MPn h o fs h1 fs1 := ⟨a.1, a.2.1, a.2.2.1, fun x hx => a.2.2.2 x (by omega)⟩
theorem MPn.tr {h h1 h2 : AH} {o : Nat} {fs fs1 fs2 : List Value} (a : MPn h o fs h1 fs1) (b : MPn h1 o fs1 h2 fs2) : MPn h o fs h2 fs2 := ⟨b.1, b.2.1, fun k hk => (b.2.2.1 k hk).trans (a.2.2.1 k hk), fun x hx => (b.2.2.2 x hx).trans (a.2.2.2 x hx)⟩
theorem MPn.row {h h1 : AH} {o j t n : Nat} {fs fs1 : List Value} {g : Nat → Int32} (a : MPn h o fs h1 fs1) (hj : 55 ≤ j ∧ j < 57) (ht : t ≠ 1) (hn : tyL.getD j (0, 0) = (t, n)) : MPn h o fs (uph h1 (o + 1 + j) (.inl (t, n, .inl g))) fs1 := by
  obtain ⟨a1, b, c, d⟩ := a
  refine ⟨a1.keep (uph_ne (by omega)), b.upd (fun i hi => ?_), c, fun x hx => (uph_ne (by omega)).trans (d x hx)⟩
  by_cases e : i = j
  · right
    rw [e, uph_eq]
    exact rowS_i ht hn ⟨g, rfl⟩
  · left
    exact uph_ne (by omega)
theorem MPn.pg {h h1 : AH} {o d : Nat} {fs fs1 : List Value} {D : DD} (a : MPn h o fs h1 fs1) (hD : MPg h o d D) : MPg h1 o d D := hD.ag (fun j hj => a.2.2.2 _ (by omega))
/-- the least number found behind sets below b -/
def Qm (u k : Nat) (sf : Nat → Bool) (v b j : Nat) : Prop := (v = u ∧ j = 0) ∨ ∃ x m, x < b ∧ sgO u k v x ∧ LVo u k sf x = some m ∧ j = m + 1
theorem Qm_no {u k v b j : Nat} {sf : Nat → Bool} (h : ¬ sgO u k v b ∨ LVo u k sf b = none) : Qm u k sf v b j ↔ Qm u k sf v (b + 1) j := by
  constructor
  · rintro (z | ⟨x, m, a, c⟩)
    · exact Or.inl z
    · exact Or.inr ⟨x, m, by omega, c⟩
  · rintro (z | ⟨x, m, a, c, d, e⟩)
    · exact Or.inl z
    · refine Or.inr ⟨x, m, ?_, c, d, e⟩
      rcases Nat.lt_or_ge x b with z | z
      · exact z
      · exfalso
        have e2 : x = b := by omega
        rw [e2] at c d
        rcases h with h | h
        · exact h c
        · rw [h] at d; cases d
theorem Qm_yes {u k v b m : Nat} {sf : Nat → Bool} {r : Option Nat} (h1 : sgO u k v b) (h2 : LVo u k sf b = some m) (hr : IsM (Qm u k sf v b) r) : IsM (Qm u k sf v (b + 1)) (mnO r (m + 1)) := by
  refine IsM_congr (fun j => ?_) (IsM_mn (n := m + 1) hr)
  constructor
  · rintro ((z | ⟨x, m2, a, c⟩) | e)
    · exact Or.inl z
    · exact Or.inr ⟨x, m2, by omega, c⟩
    · exact Or.inr ⟨b, m, Nat.lt_succ_self b, h1, h2, e⟩
  · rintro (z | ⟨x, m2, a, c, d, e⟩)
    · exact Or.inl (Or.inl z)
    · rcases Nat.lt_or_ge x b with z | z
      · exact Or.inl (Or.inr ⟨x, m2, z, c, d, e⟩)
      · have e2 : x = b := by omega
        rw [e2, h2] at d
        cases d
        exact Or.inr e
theorem Qm_le {u k v b j : Nat} {sf : Nat → Bool} (hu : u < 2048) (h : Qm u k sf v b j) : j ≤ 12 := by
  rcases h with ⟨_, z⟩ | ⟨x, m, _, _, e, f⟩
  · omega
  · have := LVo_lt hu e
    omega
theorem sub_le {v u : Nat} (h : ∀ i, v.testBit i = true → u.testBit i = true) : v ≤ u := by
  have h1 := and_sub.mpr h
  have h2 : v &&& u ≤ u := Nat.and_le_right
  omega
theorem Qm_end {u k v : Nat} {sf : Nat → Bool} {r : Option Nat} (hsf : sf v = true) (hr : IsM (Qm u k sf v (u + 1)) r) : LVo u k sf v = r := by
  by_cases c : v = u
  · have h0 : IsM (Qm u k sf v (u + 1)) (some 0) := ⟨Or.inl ⟨c, rfl⟩, fun i _ => Nat.zero_le i⟩
    rw [IsM_eq hr h0, c]
    exact LVo_eq (LV_end (by rw [← c]; exact hsf))
  · refine LVo_eq (LV_of (g := LVo u k sf) hsf c (fun x _ => LVo_c u k sf x) (IsM_congr (fun j => ?_) hr))
    constructor
    · rintro (⟨z, _⟩ | ⟨x, m, a, b, d, e⟩)
      · exact absurd z c
      · exact ⟨x, m, b, d, e⟩
    · rintro ⟨x, m, a, b, d⟩
      exact Or.inr ⟨x, m, by have := sub_le a.2.2.1; omega, a, b, d⟩
theorem eM_1 {r : Option Nat} {u k v b : Nat} {sf : Nat → Bool} (hu : u < 2048) (hr : IsM (Qm u k sf v b) r) : eM r = -1 ↔ r = none := by
  cases r with
  | none => exact ⟨fun _ => rfl, fun _ => rfl⟩
  | some j =>
    have hj := Qm_le hu hr.1
    exact ⟨fun z => absurd (show nI j = -1 from z) (nI_n2 (by omega)).2.2, fun z => by cases z⟩
set_option maxHeartbeats 8000000 in
theorem m_plans {l : Launch} {G : GG} {h : AH} {nx : Nat} {Post : Option Value → AH → Nat → Prop} {o a b k : Nat} {D E : DD} {fs : List Value} (hX : XC G ∧ TX l G) (hM : MA h o fs) (hS : SHm h o) (hD : MPg h o a D) (hE : MPg h o b E) (hw : WD D) (hv : WD E) (hk : k ≤ 7) (hP : ∀ (h1 : AH) (fs1 : List Value), MPn h o fs h1 fs1 → (sameB D E = true → rkU (unlk D E) 11 ≤ 7 → ∃ g : Nat → Int32, h1 (o + 1 + 56) = some (.inl (0, 2048, .inl g)) ∧ ∀ v, (∀ i, v.testBit i = true → (unlk D E).testBit i = true) → g v = eM (LVo (unlk D E) k (fun v => kSafe (kMix D E v)) v)) → Post (some (.int (aPl D E k))) h1 nx) : Runs l G i_X12_plans 0 0 [.ref o, .int (nI a), .int (nI b), .int (nI k)] h nx Post := by
  have hu := unlk_lt D E
  have ha := hD.2.2.2.2.2.2.2
  have hb := hE.2.2.2.2.2.2.2
  unfold aPl at hP
  refine en_X12_plans hX [37] 60 rfl ?_
  refine Exists.intro _ (And.intro hM.1 (Exists.intro 0 (Exists.intro 0 (And.intro (Nat.le_refl _) (And.intro (Nat.le_refl _) (m_isSame hX hM hD hE hw hv ?_))))))
  cases cs : sameB D E with
  | false =>
    have hP := hP h fs (MPn.rf hM hS) (fun z => by rw [cs] at z; cases z)
    rw [if_neg (by rw [cs]; decide)] at hP
    refine And.intro (fun cz => by first | exact absurd cz (by decide) | exact absurd (by decide) cz) (fun _ => ?_)
    exact And.intro rfl (hP)
  | true =>
    have hsp := (sameB_c hw hv).mp cs
    rw [if_pos cs] at hP
    refine And.intro (fun _ => ?_) (fun cz => by first | exact absurd cz (by decide) | exact absurd (by decide) cz)
    refine Exists.intro _ (And.intro hM.1 (Exists.intro 0 (Exists.intro 0 (And.intro (Nat.le_refl _) (And.intro (Nat.le_refl _) (m_unlikeOnes hX hM hD hE hsp ?_))))))
    refine Exists.intro 0 (Exists.intro 0 (And.intro (Nat.le_refl _) (And.intro (Nat.le_refl _) (m_bits hX hu ?_))))
    by_cases c7 : rkU (unlk D E) 11 ≤ 7
    · rw [if_pos c7] at hP
      refine And.intro (fun _ => ?_) (fun cz => absurd (nI_le (a := pqN (unlk D E).testBit 11) (b := 7) c7 (by decide)) cz)
      have hq : ∀ v, (∀ i, v.testBit i = true → (unlk D E).testBit i = true) → WK (kMix D E v) := fun v h => WK_sub hw hv hsp h
      have hP : ∀ (h1 : AH) (fs1 : List Value), MPn h o fs h1 fs1 → (∃ g : Nat → Int32, h1 (o + 1 + 56) = some (.inl (0, 2048, .inl g)) ∧ ∀ v, (∀ i, v.testBit i = true → (unlk D E).testBit i = true) → g v = eM (LVo (unlk D E) k (fun v => kSafe (kMix D E v)) v)) → Post (some (.int (eX (LVo (unlk D E) k (fun v => kSafe (kMix D E v)) 0)))) h1 nx := fun h1 fs1 y1 y2 => hP h1 fs1 y1 (fun _ _ => y2)
      generalize hue : unlk D E = u at *
      generalize hsf : (fun v => kSafe (kMix D E v)) = sf at hP
      have hsf2 : ∀ v, kSafe (kMix D E v) = sf v := fun v => by rw [← hsf]
      have loop : ∀ (m : Nat) (h2 : AH) (fs2 : List Value), m ≤ u + 1 → MPn h o fs h2 fs2 → (∃ g : Nat → Int32, h2 (o + 1 + 56) = some (.inl (0, 2048, .inl g)) ∧ ∀ v, m ≤ v → (∀ i, v.testBit i = true → u.testBit i = true) → g v = eM (LVo u k sf v)) → Go l G 12 s_X12_plans 0 0 Post 37 [(5, .int (nI m - 1)), (4, .int (nI u)), (0, .ref o), (1, .int (nI a)), (2, .int (nI b)), (3, .int (nI k))] [] h2 nx 0 0 := by
        intro m
        induction m with
        | zero =>
          intro h2 fs2 hm R ⟨g, eg, pg⟩
          have hP := hP h2 fs2 R ⟨g, eg, fun v hv2 => pg v (Nat.zero_le v) hv2⟩
          have e0 := pg 0 (Nat.le_refl 0) (fun i hi => by rw [Nat.zero_testBit] at hi; cases hi)
          refine Go.of hX.2 ck_X12_plans [] 40 ?_
          refine And.intro (fun _ => ?_) (fun cz => absurd (show (nI 0 - 1 : Int32) < 0 from by decide) cz)
          refine Exists.intro _ (And.intro R.1.1 (Exists.intro _ (And.intro (R.1.2.2 56 (by decide)) ?_)))
          refine Exists.intro _ (Exists.intro _ (And.intro eg (And.intro (vp_in_nI (n := 0) (by decide) (by decide)) ?_)))
          rw [show ((0 : Int32).toNatClampNeg) = 0 from rfl, e0]
          cases hl : LVo u k sf 0 with
          | none =>
            rw [hl] at hP
            refine And.intro (fun cz => absurd (rfl) cz) (fun _ => ?_)
            exact And.intro rfl (hP)
          | some j =>
            have hj := LVo_lt hu hl
            rw [hl] at hP
            refine And.intro (fun _ => ?_) (fun cz => absurd cz ((show ¬ nI j = -1 from (nI_n2 (by omega)).2.2)))
            refine Exists.intro _ (And.intro R.1.1 (Exists.intro _ (And.intro (R.1.2.2 56 (by decide)) ?_)))
            refine Exists.intro _ (Exists.intro _ (And.intro eg (And.intro (vp_in_nI (n := 0) (by decide) (by decide)) ?_)))
            rw [show ((0 : Int32).toNatClampNeg) = 0 from rfl, e0, hl]
            exact And.intro rfl (hP)
        | succ m ih =>
          intro h2 fs2 hm R ⟨g, eg, pg⟩
          have next : ∀ (h3 : AH) (fs3 : List Value), MPn h o fs h3 fs3 → (∃ g : Nat → Int32, h3 (o + 1 + 56) = some (.inl (0, 2048, .inl g)) ∧ ∀ v, m ≤ v → (∀ i, v.testBit i = true → u.testBit i = true) → g v = eM (LVo u k sf v)) → Go l G 12 s_X12_plans 0 0 Post 217 [(5, .int (nI m)), (4, .int (nI u)), (0, .ref o), (1, .int (nI a)), (2, .int (nI b)), (3, .int (nI k))] [] h3 nx 0 0 := by
            intro h3 fs3 R3 G3
            have := ih h3 fs3 (by omega) R3 G3
            rw [Int32.sub_eq_add_neg] at this
            refine Go.of hX.2 ck_X12_plans [37] 10 ?_
            exact go_loc (lv' := [(5, .int (nI m + (-1))), (4, .int (nI u)), (0, .ref o), (1, .int (nI a)), (2, .int (nI b)), (3, .int (nI k))]) ⟨rfl, rfl, rfl, rfl, rfl, rfl, trivial⟩ (this)
          rw [nI_pred]
          refine Go.of hX.2 ck_X12_plans [55, 217] 60 ?_
          refine And.intro (fun cz => absurd cz (nI_pos (show m < 2 ^ 31 by omega))) (fun _ => ?_)
          by_cases cm : ∀ i, m.testBit i = true → u.testBit i = true
          · refine And.intro (fun _ => ?_) (fun cz => absurd ((nsub (by omega)).mpr cm) cz)
            refine go_loc (lv' := [(5, .int (nI m)), (4, .int (nI u)), (0, .ref o), (1, .int (nI a)), (2, .int (nI b)), (3, .int (nI k))]) ⟨rfl, rfl, rfl, rfl, rfl, rfl, trivial⟩ ?_
            refine Go.of hX.2 ck_X12_plans [91, 217] 60 ?_
            have r56 := R.1.2.2 56 (by decide)
            refine Exists.intro _ (And.intro R.1.1 (Exists.intro _ (And.intro r56 ?_)))
            refine Exists.intro _ (Exists.intro _ (And.intro eg (And.intro (vp_in_nI (show m < 2048 by omega) (by decide)) ?_)))
            rw [nI_clamp (show m < 2 ^ 31 by omega)]
            have R3 := R.row (j := 56) (t := 0) (n := 2048) (g := upd g m (-1)) (by decide) (by decide) rfl
            have r55 := R3.1.2.2 55 (by decide)
            refine Exists.intro _ (And.intro R3.1.1 (Exists.intro _ (And.intro r55 ?_)))
            refine Exists.intro _ (And.intro R3.1.1 (Exists.intro 0 (Exists.intro 0 (And.intro (Nat.le_refl _) (And.intro (Nat.le_refl _) (m_isSafe hX R3.1 R3.2.1 (R3.pg hD) (R3.pg hE) (hq m cm) (fun h4 fs4 M4 => ?_)))))))
            have R4 := R3.tr M4.pn
            obtain ⟨g55, e55⟩ := R4.2.1.i 55 (by decide) (by decide) (t := 3) (n := 2048) rfl
            have k56 : h4 (o + 1 + 56) = some (.inl (0, 2048, .inl (upd g m (-1)))) := (M4.2.2.2 _ (by omega)).trans uph_eq
            refine Exists.intro 3 (Exists.intro _ (Exists.intro _ (And.intro e55 (And.intro (Or.inr rfl) (And.intro (vp_in_nI (show m < 2048 by omega) (by decide)) ?_)))))
            rw [nI_clamp (show m < 2 ^ 31 by omega), nar_b]
            have R5 := R4.row (j := 55) (t := 3) (n := 2048) (g := upd g55 m (nI (kSafe (kMix D E m)).toNat)) (by decide) (by decide) rfl
            have q55 := R5.1.2.2 55 (by decide)
            refine Exists.intro _ (And.intro R5.1.1 (Exists.intro _ (And.intro q55 ?_)))
            refine Exists.intro 3 (Exists.intro _ (Exists.intro _ (And.intro uph_eq (And.intro (Or.inr rfl) (And.intro (vp_in_nI (show m < 2048 by omega) (by decide)) ?_)))))
            rw [nI_clamp (show m < 2 ^ 31 by omega), pk_us]
            have k56 : uph h4 (o + 1 + 55) (.inl (3, 2048, .inl (upd g55 m (nI (kSafe (kMix D E m)).toNat)))) (o + 1 + 56) = some (.inl (0, 2048, .inl (upd g m (-1)))) := (uph_ne (by omega)).trans k56
            rw [hsf2] at R5 k56
            rw [hsf2]
            generalize uph h4 (o + 1 + 55) (.inl (3, 2048, .inl (upd g55 m (nI (sf m).toNat)))) = h5 at *
            cases cf : sf m with
            | false =>
              refine And.intro (fun cz => by first | exact absurd cz (by decide) | exact absurd (by decide) cz) (fun _ => ?_)
              refine go_loc (lv' := [(5, .int (nI m)), (4, .int (nI u)), (0, .ref o), (1, .int (nI a)), (2, .int (nI b)), (3, .int (nI k))]) ⟨rfl, rfl, rfl, rfl, rfl, rfl, trivial⟩ ?_
              refine next h5 fs4 R5 ⟨_, k56, fun v hv1 hv2 => ?_⟩
              by_cases e : v = m
              · rw [e, pk_us, LVo_eq (LV_unsafe cf)]
                rfl
              · rw [pk_un e]
                exact pg v (by omega) hv2
            | true =>
              refine And.intro (fun _ => ?_) (fun cz => by first | exact absurd cz (by decide) | exact absurd (by decide) cz)
              refine go_loc (lv' := [(5, .int (nI m)), (4, .int (nI u)), (0, .ref o), (1, .int (nI a)), (2, .int (nI b)), (3, .int (nI k))]) ⟨rfl, rfl, rfl, rfl, rfl, rfl, trivial⟩ ?_
              have inner : ∀ (p x : Nat) (h6 : AH) (fs6 : List Value) (r : Option Nat), x + p = u + 1 → m < x → MPn h o fs h6 fs6 → (∃ g : Nat → Int32, h6 (o + 1 + 56) = some (.inl (0, 2048, .inl g)) ∧ g m = eM r ∧ ∀ v, m < v → (∀ i, v.testBit i = true → u.testBit i = true) → g v = eM (LVo u k sf v)) → IsM (Qm u k sf m x) r → Go l G 12 s_X12_plans 0 0 Post 112 [(6, .int (nI x)), (5, .int (nI m)), (4, .int (nI u)), (0, .ref o), (1, .int (nI a)), (2, .int (nI b)), (3, .int (nI k))] [] h6 nx 0 0 := by
                intro p
                induction p with
                | zero =>
                  intro x h6 fs6 r hx hmx R6 ⟨g6, eg6, gm, pg6⟩ hr
                  have e : x = u + 1 := by omega
                  rw [e] at hr
                  have hl := Qm_end cf hr
                  refine Go.of hX.2 ck_X12_plans [217] 20 ?_
                  refine And.intro (fun _ => ?_) (fun cz => absurd (nI_lt (a := u) (b := x) (by omega) (by omega)) cz)
                  refine go_loc (lv' := [(5, .int (nI m)), (4, .int (nI u)), (0, .ref o), (1, .int (nI a)), (2, .int (nI b)), (3, .int (nI k))]) ⟨rfl, rfl, rfl, rfl, rfl, rfl, trivial⟩ ?_
                  refine next h6 fs6 R6 ⟨g6, eg6, fun v hv1 hv2 => ?_⟩
                  by_cases e : v = m
                  · rw [e, gm, hl]
                  · exact pg6 v (by omega) hv2
                | succ p ih2 =>
                  intro x h6 fs6 r hx hmx R6 ⟨g6, eg6, gm, pg6⟩ hr
                  have skip : ∀ (h7 : AH) (r2 : Option Nat), MPn h o fs h7 fs6 → (∃ g : Nat → Int32, h7 (o + 1 + 56) = some (.inl (0, 2048, .inl g)) ∧ g m = eM r2 ∧ ∀ v, m < v → (∀ i, v.testBit i = true → u.testBit i = true) → g v = eM (LVo u k sf v)) → IsM (Qm u k sf m (x + 1)) r2 → Go l G 12 s_X12_plans 0 0 Post 211 [(6, .int (nI x)), (5, .int (nI m)), (4, .int (nI u)), (0, .ref o), (1, .int (nI a)), (2, .int (nI b)), (3, .int (nI k))] [] h7 nx 0 0 := by
                    intro h7 r2 R7 G7 hr2
                    have := ih2 (x + 1) h7 fs6 r2 (by omega) (by omega) R7 G7 hr2
                    rw [nI_succ] at this
                    refine Go.of hX.2 ck_X12_plans [112] 10 ?_
                    exact go_loc (lv' := [(6, .int (nI x + 1)), (5, .int (nI m)), (4, .int (nI u)), (0, .ref o), (1, .int (nI a)), (2, .int (nI b)), (3, .int (nI k))]) ⟨rfl, rfl, rfl, rfl, rfl, rfl, rfl, trivial⟩ (this)
                  have same := skip h6 r R6 ⟨g6, eg6, gm, pg6⟩
                  have hxm : x ^^^ m < 2048 := Nat.xor_lt_two_pow (n := 11) (by omega) (by omega)
                  refine Go.of hX.2 ck_X12_plans [195, 211] 99 ?_
                  refine And.intro (fun cz => absurd cz (nI_nlt (a := u) (b := x) (by omega) (by omega))) (fun _ => ?_)
                  by_cases x1 : ∀ i, x.testBit i = true → u.testBit i = true
                  · refine And.intro (fun cz => absurd ((nsub (by omega)).mpr x1) cz) (fun _ => ?_)
                    by_cases x2 : ∀ i, m.testBit i = true → x.testBit i = true
                    · refine And.intro (fun cz => absurd ((nsub (by omega)).mpr x2) cz) (fun _ => ?_)
                      refine Exists.intro 0 (Exists.intro 0 (And.intro (Nat.le_refl _) (And.intro (Nat.le_refl _) ?_)))
                      rw [nx_xor]
                      refine m_bits hX hxm ?_
                      have hpl := pqN_le (x ^^^ m).testBit 11
                      by_cases x3 : pqN (x ^^^ m).testBit 11 ≤ k
                      · refine And.intro (fun cz => absurd cz (nI_nlt x3 (by omega))) (fun _ => ?_)
                        have hsg : sgO u k m x := ⟨hmx, x2, x1, x3⟩
                        refine Exists.intro _ (And.intro R6.1.1 (Exists.intro _ (And.intro (R6.1.2.2 56 (by decide)) ?_)))
                        refine Exists.intro _ (Exists.intro _ (And.intro eg6 (And.intro (vp_in_nI (show x < 2048 by omega) (by decide)) ?_)))
                        rw [nI_clamp (show x < 2 ^ 31 by omega), pg6 x hmx x1]
                        cases hl : LVo u k sf x with
                        | none =>
                          refine And.intro (fun cz => absurd (rfl) cz) (fun _ => ?_)
                          exact go_loc (lv' := [(6, .int (nI x)), (5, .int (nI m)), (4, .int (nI u)), (0, .ref o), (1, .int (nI a)), (2, .int (nI b)), (3, .int (nI k))]) ⟨rfl, rfl, rfl, rfl, rfl, rfl, rfl, trivial⟩ (same (IsM_congr (fun j => Qm_no (Or.inr hl)) hr))
                        | some q =>
                          have hq2 := LVo_lt hu hl
                          refine And.intro (fun _ => ?_) (fun cz => absurd cz ((show ¬ eM (some q) = -1 from (nI_n2 (by omega)).2.2)))
                          have hy := Qm_yes hsg hl hr
                          have store : mnO r (q + 1) = some (q + 1) → Go l G 12 s_X12_plans 0 0 Post 195 [(6, .int (nI x)), (5, .int (nI m)), (4, .int (nI u)), (0, .ref o), (1, .int (nI a)), (2, .int (nI b)), (3, .int (nI k))] [] h6 nx 0 0 := by
                            intro em
                            rw [em] at hy
                            refine Go.of hX.2 ck_X12_plans [211] 30 ?_
                            refine Exists.intro _ (And.intro R6.1.1 (Exists.intro _ (And.intro (R6.1.2.2 56 (by decide)) ?_)))
                            refine Exists.intro _ (And.intro R6.1.1 (Exists.intro _ (And.intro (R6.1.2.2 56 (by decide)) ?_)))
                            refine Exists.intro _ (Exists.intro _ (And.intro eg6 (And.intro (vp_in_nI (show x < 2048 by omega) (by decide)) ?_)))
                            rw [nI_clamp (show x < 2 ^ 31 by omega), pg6 x hmx x1, hl]
                            refine Exists.intro _ (Exists.intro _ (And.intro eg6 (And.intro (vp_in_nI (show m < 2048 by omega) (by decide)) ?_)))
                            rw [nI_clamp (show m < 2 ^ 31 by omega)]
                            refine go_loc (lv' := [(6, .int (nI x)), (5, .int (nI m)), (4, .int (nI u)), (0, .ref o), (1, .int (nI a)), (2, .int (nI b)), (3, .int (nI k))]) ⟨rfl, rfl, rfl, rfl, rfl, rfl, rfl, trivial⟩ ?_
                            refine skip _ (some (q + 1)) (R6.row (j := 56) (t := 0) (n := 2048) (by decide) (by decide) rfl) ⟨_, uph_eq, ?_, fun v hv1 hv2 => ?_⟩ hy
                            · rw [pk_us]
                              exact (nI_succ q).symm
                            · rw [pk_un (by omega)]
                              exact pg6 v hv1 hv2
                          refine Exists.intro _ (And.intro R6.1.1 (Exists.intro _ (And.intro (R6.1.2.2 56 (by decide)) ?_)))
                          refine Exists.intro _ (Exists.intro _ (And.intro eg6 (And.intro (vp_in_nI (show m < 2048 by omega) (by decide)) ?_)))
                          rw [nI_clamp (show m < 2 ^ 31 by omega), gm]
                          cases r with
                          | none =>
                            refine And.intro (fun _ => ?_) (fun cz => absurd (rfl) cz)
                            exact go_loc (lv' := [(6, .int (nI x)), (5, .int (nI m)), (4, .int (nI u)), (0, .ref o), (1, .int (nI a)), (2, .int (nI b)), (3, .int (nI k))]) ⟨rfl, rfl, rfl, rfl, rfl, rfl, rfl, trivial⟩ (store rfl)
                          | some j =>
                            have hj := Qm_le hu hr.1
                            refine And.intro (fun cz => absurd cz ((show ¬ nI j = -1 from (nI_n2 (by omega)).2.2))) (fun _ => ?_)
                            refine Exists.intro _ (And.intro R6.1.1 (Exists.intro _ (And.intro (R6.1.2.2 56 (by decide)) ?_)))
                            refine Exists.intro _ (Exists.intro _ (And.intro eg6 (And.intro (vp_in_nI (show x < 2048 by omega) (by decide)) ?_)))
                            rw [nI_clamp (show x < 2 ^ 31 by omega), pg6 x hmx x1, hl]
                            refine Exists.intro _ (And.intro R6.1.1 (Exists.intro _ (And.intro (R6.1.2.2 56 (by decide)) ?_)))
                            refine Exists.intro _ (Exists.intro _ (And.intro eg6 (And.intro (vp_in_nI (show m < 2048 by omega) (by decide)) ?_)))
                            rw [nI_clamp (show m < 2 ^ 31 by omega), gm, show eM (some q) + 1 = nI (q + 1) from (nI_succ q).symm]
                            by_cases c1 : q + 1 < j
                            · refine And.intro (fun cz => absurd cz (nI_ge c1 (by omega))) (fun _ => ?_)
                              exact go_loc (lv' := [(6, .int (nI x)), (5, .int (nI m)), (4, .int (nI u)), (0, .ref o), (1, .int (nI a)), (2, .int (nI b)), (3, .int (nI k))]) ⟨rfl, rfl, rfl, rfl, rfl, rfl, rfl, trivial⟩ (store (if_pos c1))
                            · refine And.intro (fun _ => ?_) (fun cz => absurd (nI_le (a := j) (b := q + 1) (by omega) (by omega)) cz)
                              rw [show mnO (some j) (q + 1) = some j from if_neg c1] at hy
                              exact go_loc (lv' := [(6, .int (nI x)), (5, .int (nI m)), (4, .int (nI u)), (0, .ref o), (1, .int (nI a)), (2, .int (nI b)), (3, .int (nI k))]) ⟨rfl, rfl, rfl, rfl, rfl, rfl, rfl, trivial⟩ (same hy)
                      · refine And.intro (fun _ => ?_) (fun cz => absurd (nI_lt (a := k) (b := pqN (x ^^^ m).testBit 11) (by omega) (by omega)) cz)
                        exact go_loc (lv' := [(6, .int (nI x)), (5, .int (nI m)), (4, .int (nI u)), (0, .ref o), (1, .int (nI a)), (2, .int (nI b)), (3, .int (nI k))]) ⟨rfl, rfl, rfl, rfl, rfl, rfl, rfl, trivial⟩ (same (IsM_congr (fun j => Qm_no (Or.inl (fun z => x3 z.2.2.2))) hr))
                    · refine And.intro (fun _ => ?_) (fun cz => absurd cz (fun z => x2 ((nsub (by omega)).mp z)))
                      exact go_loc (lv' := [(6, .int (nI x)), (5, .int (nI m)), (4, .int (nI u)), (0, .ref o), (1, .int (nI a)), (2, .int (nI b)), (3, .int (nI k))]) ⟨rfl, rfl, rfl, rfl, rfl, rfl, rfl, trivial⟩ (same (IsM_congr (fun j => Qm_no (Or.inl (fun z => x2 z.2.1))) hr))
                  · refine And.intro (fun _ => ?_) (fun cz => absurd cz (fun z => x1 ((nsub (by omega)).mp z)))
                    exact go_loc (lv' := [(6, .int (nI x)), (5, .int (nI m)), (4, .int (nI u)), (0, .ref o), (1, .int (nI a)), (2, .int (nI b)), (3, .int (nI k))]) ⟨rfl, rfl, rfl, rfl, rfl, rfl, rfl, trivial⟩ (same (IsM_congr (fun j => Qm_no (Or.inl (fun z => x1 z.2.2.1))) hr))
              have i2 := inner (u - m) (m + 1)
              rw [nI_succ] at i2
              refine Go.of hX.2 ck_X12_plans [112] 30 ?_
              by_cases c9 : m = u
              · refine And.intro (fun cz => absurd (show nI m = nI u from by rw [c9]) cz) (fun _ => ?_)
                refine Exists.intro _ (And.intro R5.1.1 (Exists.intro _ (And.intro (R5.1.2.2 56 (by decide)) ?_)))
                refine Exists.intro _ (Exists.intro _ (And.intro k56 (And.intro (vp_in_nI (show m < 2048 by omega) (by decide)) ?_)))
                rw [nI_clamp (show m < 2 ^ 31 by omega)]
                refine go_loc (lv' := [(6, .int (nI m + 1)), (5, .int (nI m)), (4, .int (nI u)), (0, .ref o), (1, .int (nI a)), (2, .int (nI b)), (3, .int (nI k))]) ⟨rfl, rfl, rfl, rfl, rfl, rfl, rfl, trivial⟩ ?_
                refine i2 _ fs4 (some 0) (by omega) (Nat.lt_succ_self m) (R5.row (j := 56) (t := 0) (n := 2048) (by decide) (by decide) rfl) ⟨_, uph_eq, pk_us, fun v hv1 hv2 => ?_⟩ ⟨Or.inl ⟨c9, rfl⟩, fun i _ => Nat.zero_le i⟩
                rw [pk_un (by omega), pk_un (by omega)]
                exact pg v (by omega) hv2
              · refine And.intro (fun _ => ?_) (fun cz => absurd cz (fun z => c9 ((nI_eq (by omega) (by omega)).mp z)))
                refine go_loc (lv' := [(6, .int (nI m + 1)), (5, .int (nI m)), (4, .int (nI u)), (0, .ref o), (1, .int (nI a)), (2, .int (nI b)), (3, .int (nI k))]) ⟨rfl, rfl, rfl, rfl, rfl, rfl, rfl, trivial⟩ ?_
                refine i2 h5 fs4 none (by omega) (Nat.lt_succ_self m) R5 ⟨_, k56, pk_us, fun v hv1 hv2 => ?_⟩ (fun j z => ?_)
                · rw [pk_un (by omega)]
                  exact pg v (by omega) hv2
                · rcases z with ⟨z, _⟩ | ⟨x, m2, z1, z2, _⟩
                  · exact c9 z
                  · have := z2.1; omega
          · refine And.intro (fun cz => absurd cz (fun z => cm ((nsub (by omega)).mp z))) (fun _ => ?_)
            refine go_loc (lv' := [(5, .int (nI m)), (4, .int (nI u)), (0, .ref o), (1, .int (nI a)), (2, .int (nI b)), (3, .int (nI k))]) ⟨rfl, rfl, rfl, rfl, rfl, rfl, trivial⟩ ?_
            refine next h2 fs2 R ⟨g, eg, fun v hv1 hv2 => pg v ?_ hv2⟩
            have : v ≠ m := fun e => cm (by rw [← e]; exact hv2)
            omega
      have l1 := loop (u + 1) h fs (Nat.le_refl _) (MPn.rf hM hS)
      rw [nI_pred] at l1
      obtain ⟨g56, e56⟩ := hS.i 56 (by decide) (by decide) (t := 0) (n := 2048) rfl
      exact go_loc (lv' := [(5, .int (nI u)), (4, .int (nI u)), (0, .ref o), (1, .int (nI a)), (2, .int (nI b)), (3, .int (nI k))]) ⟨rfl, rfl, rfl, rfl, rfl, rfl, trivial⟩ (l1 ⟨g56, e56, fun v hv1 hv2 => by have := sub_le hv2; omega⟩)
    · have hP := hP h fs (MPn.rf hM hS) (fun _ z => absurd z c7)
      rw [if_neg c7] at hP
      refine And.intro (fun cz => absurd cz (fun z => c7 ((nI_leI (a := pqN (unlk D E).testBit 11) (b := 7) (by have := pqN_le (unlk D E).testBit 11; omega) (by decide)).mp z))) (fun _ => ?_)
      exact And.intro rfl (hP)
/-- a plan that the model has found -/
def MPfd (h : AH) (o c : Nat) (dd : Nat → DD) (a b k : Int32) : Prop := ∃ i j n, i < c ∧ j < c ∧ a = nI i ∧ b = nI j ∧ k = nI n ∧ 1 ≤ n ∧ n ≤ 7 ∧ (sameB (dd i) (dd j) = true → rkU (unlk (dd i) (dd j)) 11 ≤ 7 → ∃ g : Nat → Int32, h (o + 1 + 56) = some (.inl (0, 2048, .inl g)) ∧ ∀ v, (∀ b, v.testBit b = true → (unlk (dd i) (dd j)).testBit b = true) → g v = eM (LVo (unlk (dd i) (dd j)) n (fun v => kSafe (kMix (dd i) (dd j) v)) v))
set_option maxHeartbeats 8000000 in
theorem m_plan {l : Launch} {G : GG} {h : AH} {nx : Nat} {Post : Option Value → AH → Nat → Prop} {o c : Nat} {a b k : Int32} {dd : Nat → DD} {fs : List Value} (hX : XC G ∧ TX l G) (hM : MA h o fs) (hS : SHm h o) (hQ : MPs h o fs c dd) (hP : ∀ (h1 : AH) (fs1 : List Value), MPn h o fs h1 fs1 → (0 ≤ aPlan c dd a b k → MPfd h1 o c dd a b k) → Post (some (.int (aPlan c dd a b k))) h1 nx) : Runs l G i_X12_plan 0 0 [.ref o, .int a, .int b, .int k] h nx Post := by
  have hc := hQ.2.1
  have st : aPlan c dd a b k < 0 → Post (some (.int (aPlan c dd a b k))) h nx := fun z => hP h fs (MPn.rf hM hS) (fun y => absurd z (Int32.not_lt.mpr y))
  have kno : (inR a c && inR b c && inK k) = false → Post (some (.int (-1))) h nx := fun z => by
    have e : aPlan c dd a b k = -1 := by unfold aPlan; rw [z]; rfl
    rw [e] at st
    exact st (by decide)
  refine en_X12_plan hX [] 60 rfl ?_
  refine Exists.intro _ (And.intro hM.1 (Exists.intro 0 (Exists.intro 0 (And.intro (Nat.le_refl _) (And.intro (Nat.le_refl _) (m_isDrawing hX hM hQ ?_))))))
  cases c1 : inR a c with
  | false =>
    refine And.intro (fun _ => ?_) (fun cz => by first | exact absurd cz (by decide) | exact absurd (by decide) cz)
    exact And.intro rfl ((kno (by rw [c1]; rfl)))
  | true =>
    refine And.intro (fun cz => by first | exact absurd cz (by decide) | exact absurd (by decide) cz) (fun _ => ?_)
    refine Exists.intro _ (And.intro hM.1 (Exists.intro 0 (Exists.intro 0 (And.intro (Nat.le_refl _) (And.intro (Nat.le_refl _) (m_isDrawing hX hM hQ ?_))))))
    cases c2 : inR b c with
    | false =>
      refine And.intro (fun _ => ?_) (fun cz => by first | exact absurd cz (by decide) | exact absurd (by decide) cz)
      exact And.intro rfl ((kno (by rw [c1, c2]; rfl)))
    | true =>
      refine And.intro (fun cz => by first | exact absurd cz (by decide) | exact absurd (by decide) cz) (fun _ => ?_)
      refine Exists.intro 0 (Exists.intro 0 (And.intro (Nat.le_refl _) (And.intro (Nat.le_refl _) (c_in hX ?_))))
      cases c3 : inK k with
      | false =>
        rw [if_neg (fun z => by unfold inK at c3; rw [decide_eq_true z.1, decide_eq_true z.2] at c3; cases c3)]
        refine And.intro (fun cz => by first | exact absurd cz (by decide) | exact absurd (by decide) cz) (fun _ => ?_)
        exact And.intro rfl ((kno (by rw [c1, c2, c3]; rfl)))
      | true =>
        obtain ⟨n, h1, h7, rfl⟩ := inK_c c3
        rw [if_pos ⟨nI_le (a := 1) h1 (by omega), nI_le (b := 7) h7 (by decide)⟩]
        refine And.intro (fun _ => ?_) (fun cz => by first | exact absurd cz (by decide) | exact absurd (by decide) cz)
        obtain ⟨i, hi, rfl⟩ := (inR_c (by omega)).mp c1
        obtain ⟨j, hj, rfl⟩ := (inR_c (by omega)).mp c2
        have ea : aPlan c dd (nI i) (nI j) (nI n) = aPl (dd i) (dd j) n := by
          unfold aPlan
          rw [c1, c2, c3, nI_clamp (by omega), nI_clamp (by omega), nI_clamp (by omega)]
          rfl
        refine Exists.intro _ (And.intro hM.1 (Exists.intro 0 (Exists.intro 0 (And.intro (Nat.le_refl _) (And.intro (Nat.le_refl _) (m_plans hX hM hS (hQ.2.2 i hi).1 (hQ.2.2 j hj).1 (hQ.2.2 i hi).2 (hQ.2.2 j hj).2 h7 (fun h1 fs1 y1 y2 => ?_)))))))
        rw [ea] at hP
        exact And.intro rfl ((hP h1 fs1 y1 (fun _ => ⟨i, j, n, hi, hj, rfl, rfl, rfl, by assumption, h7, y2⟩)))
theorem MPs.pn {h h1 : AH} {o c : Nat} {fs fs1 : List Value} {dd : Nat → DD} (a : MPn h o fs h1 fs1) (hQ : MPs h o fs c dd) : MPs h1 o fs1 c dd := ⟨(a.2.2.1 18 rfl).trans hQ.1, hQ.2.1, fun i hi => ⟨a.pg (hQ.2.2 i hi).1, (hQ.2.2 i hi).2⟩⟩
theorem aPl_0 {D E : DD} {k : Nat} (h0 : 0 ≤ aPl D E k) : sameB D E = true ∧ rkU (unlk D E) 11 ≤ 7 ∧ ∃ m, LVo (unlk D E) k (fun v => kSafe (kMix D E v)) 0 = some m ∧ m ≤ 11 ∧ aPl D E k = nI m := by
  unfold aPl at h0 ⊢
  split at h0
  · next h1 =>
    split at h0
    · next h2 =>
      refine ⟨h1, h2, ?_⟩
      rw [if_pos h1, if_pos h2]
      cases hl : LVo (unlk D E) k (fun v => kSafe (kMix D E v)) 0 with
      | none => rw [hl] at h0; exact absurd h0 (by decide)
      | some m => exact ⟨m, rfl, LVo_lt (unlk_lt D E) hl, rfl⟩
    · exact absurd h0 (by decide)
  · exact absurd h0 (by decide)
set_option maxHeartbeats 8000000 in
theorem m_stage {l : Launch} {G : GG} {h : AH} {nx : Nat} {Post : Option Value → AH → Nat → Prop} {o c : Nat} {a b k i : Int32} {dd : Nat → DD} {fs : List Value} (hX : XC G ∧ TX l G) (hM : MA h o fs) (hS : SHm h o) (hQ : MPs h o fs c dd) (hP : ∀ (h1 : AH) (fs1 : List Value), MPn h o fs h1 fs1 → Post (some (.int (aStage c dd a b k i))) h1 nx) : Runs l G i_X12_stage 0 0 [.ref o, .int a, .int b, .int k, .int i] h nx Post := by
  have hc := hQ.2.1
  refine en_X12_stage hX [43] 60 rfl ?_
  refine Exists.intro _ (And.intro hM.1 (Exists.intro 0 (Exists.intro 0 (And.intro (Nat.le_refl _) (And.intro (Nat.le_refl _) (m_plan hX hM hS hQ (fun h1 fs1 y1 y2 => ?_)))))))
  have hP := hP h1 fs1 y1
  have hQ1 := hQ.pn y1
  unfold aStage at hP
  by_cases c0 : aPlan c dd a b k < 0
  · rw [if_neg (fun z => absurd (Int32.lt_of_le_of_lt z.1 z.2) (Int32.not_lt.mpr (Int32.le_of_lt c0)))] at hP
    refine And.intro (fun _ => ?_) (fun cz => absurd (c0) cz)
    exact And.intro rfl (hP)
  · refine And.intro (fun cz => absurd cz (c0)) (fun _ => ?_)
    have c0 := Int32.not_lt.mp c0
    obtain ⟨i1, j1, n1, z1, z2, rfl, rfl, rfl, z3, z4, z5⟩ := y2 c0
    have ea : aPlan c dd (nI i1) (nI j1) (nI n1) = aPl (dd i1) (dd j1) n1 := by
      unfold aPlan
      rw [(inR_c (x := nI i1) (by omega)).mpr ⟨i1, z1, rfl⟩, (inR_c (x := nI j1) (by omega)).mpr ⟨j1, z2, rfl⟩, show inK (nI n1) = true from by unfold inK; rw [decide_eq_true (show (1 : Int32) ≤ nI n1 from nI_le (a := 1) z3 (by omega)), decide_eq_true (show nI n1 ≤ 7 from nI_le (b := 7) z4 (by decide))]; rfl, nI_clamp (by omega), nI_clamp (by omega), nI_clamp (by omega)]
      rfl
    rw [ea] at c0
    obtain ⟨p1, p2, m, p3, p4, p5⟩ := aPl_0 c0
    obtain ⟨g, eg, pg⟩ := z5 p1 p2
    rw [ea, p5] at hP
    rw [nI_clamp (by omega), nI_clamp (by omega), nI_clamp (by omega)] at hP
    rw [ea, p5]
    have hw := (hQ.2.2 i1 z1).2
    have hv := (hQ.2.2 j1 z2).2
    have hsp := (sameB_c hw hv).mp p1
    have hu := unlk_lt (dd i1) (dd j1)
    refine Exists.intro 0 (Exists.intro 0 (And.intro (Nat.le_refl _) (And.intro (Nat.le_refl _) (c_in hX ?_))))
    cases c4 : inR i m with
    | false =>
      rw [if_neg (fun z => by rw [(inR_in (by omega)).mp z] at c4; cases c4)]
      rw [if_neg (fun z => by unfold inR at c4; rw [decide_eq_true z.1, decide_eq_true z.2] at c4; cases c4)] at hP
      refine And.intro (fun cz => by first | exact absurd cz (by decide) | exact absurd (by decide) cz) (fun _ => ?_)
      exact And.intro rfl (hP)
    | true =>
      rw [if_pos ((inR_in (by omega)).mpr c4)]
      obtain ⟨n, hn, rfl⟩ := (inR_c (by omega)).mp c4
      rw [if_pos ⟨nI_pos' (by omega), nI_lt hn (by omega)⟩, nI_clamp (by omega)] at hP
      refine And.intro (fun _ => ?_) (fun cz => by first | exact absurd cz (by decide) | exact absurd (by decide) cz)
      refine Exists.intro _ (And.intro y1.1.1 (Exists.intro 0 (Exists.intro 0 (And.intro (Nat.le_refl _) (And.intro (Nat.le_refl _) (m_unlikeOnes hX y1.1 (hQ1.2.2 i1 z1).1 (hQ1.2.2 j1 z2).1 hsp ?_))))))
      generalize hue : unlk (dd i1) (dd j1) = u at *
      generalize hsf : (fun v => kSafe (kMix (dd i1) (dd j1) v)) = sf at *
      have loop : ∀ (q i v : Nat), i + q = n + 1 → v = stgB u n1 sf i → Go l G 12 s_X12_stage 0 0 Post 43 [(8, .int (nI i)), (7, .int (nI v)), (6, .int (nI u)), (0, .ref o), (1, .int (nI i1)), (2, .int (nI j1)), (3, .int (nI n1)), (4, .int (nI n))] [] h1 nx 0 0 := by
        intro q
        induction q with
        | zero =>
          intro i v hi hv2
          have e : i = n + 1 := by omega
          rw [← e, ← hv2] at hP
          refine Go.of hX.2 ck_X12_stage [] 20 ?_
          refine And.intro (fun _ => ?_) (fun cz => absurd (nI_lt (a := n) (b := i) (by omega) (by omega)) cz)
          exact And.intro rfl (hP)
        | succ q ih =>
          intro i v hi hv2
          obtain ⟨hl, hvs⟩ := stgB_c p3 i (by omega)
          have hj : m - i = (m - (i + 1)) + 1 := by omega
          rw [← hv2, hj] at hl
          rw [← hv2] at hvs
          obtain ⟨hn1, hn2⟩ := nxO_c hl
          have hxu := sub_le hn1.1.2.2.1
          have out : Go l G 12 s_X12_stage 0 0 Post 113 [(9, .int (nI (nxO u n1 sf v))), (8, .int (nI i)), (7, .int (nI v)), (6, .int (nI u)), (0, .ref o), (1, .int (nI i1)), (2, .int (nI j1)), (3, .int (nI n1)), (4, .int (nI n))] [] h1 nx 0 0 := by
            have := ih (i + 1) (nxO u n1 sf v) (by omega) (by rw [hv2]; rfl)
            rw [nI_succ] at this
            refine Go.of hX.2 ck_X12_stage [43] 20 ?_
            exact go_loc (lv' := [(8, .int (nI i + 1)), (7, .int (nI (nxO u n1 sf v))), (6, .int (nI u)), (0, .ref o), (1, .int (nI i1)), (2, .int (nI j1)), (3, .int (nI n1)), (4, .int (nI n))]) ⟨rfl, rfl, rfl, rfl, rfl, rfl, rfl, rfl, trivial⟩ (this)
          have inner : ∀ (p x : Nat), x + p = nxO u n1 sf v → v < x → Go l G 12 s_X12_stage 0 0 Post 56 [(9, .int (nI x)), (8, .int (nI i)), (7, .int (nI v)), (6, .int (nI u)), (0, .ref o), (1, .int (nI i1)), (2, .int (nI j1)), (3, .int (nI n1)), (4, .int (nI n))] [] h1 nx 0 0 := by
            intro p
            induction p with
            | zero =>
              intro x hx hvx
              have e : x = nxO u n1 sf v := by omega
              rw [← e] at hn1 out
              obtain ⟨hsg, j, y5, y6⟩ := hn1
              rw [hl] at y5
              cases y5
              have hxv : x ^^^ v < 2048 := Nat.xor_lt_two_pow (n := 11) (by omega) (by omega)
              have hpl := pqN_le (x ^^^ v).testBit 11
              refine Go.of hX.2 ck_X12_stage [113] 60 ?_
              refine And.intro (fun cz => absurd ((nsub (by omega)).mpr hsg.2.2.1) cz) (fun _ => ?_)
              refine And.intro (fun cz => absurd ((nsub (by omega)).mpr hsg.2.1) cz) (fun _ => ?_)
              refine Exists.intro 0 (Exists.intro 0 (And.intro (Nat.le_refl _) (And.intro (Nat.le_refl _) ?_)))
              rw [nx_xor]
              refine m_bits hX hxv ?_
              refine And.intro (fun cz => absurd cz (nI_nlt hsg.2.2.2 (by omega))) (fun _ => ?_)
              refine Exists.intro _ (And.intro y1.1.1 (Exists.intro _ (And.intro (y1.1.2.2 56 (by decide)) ?_)))
              refine Exists.intro _ (Exists.intro _ (And.intro eg (And.intro (vp_in_nI (show x < 2048 by omega) (by decide)) ?_)))
              rw [nI_clamp (show x < 2 ^ 31 by omega), pg x hsg.2.2.1, y6]
              refine Exists.intro _ (And.intro y1.1.1 (Exists.intro _ (And.intro (y1.1.2.2 56 (by decide)) ?_)))
              refine Exists.intro _ (Exists.intro _ (And.intro eg (And.intro (vp_in_nI (show v < 2048 by omega) (by decide)) ?_)))
              rw [nI_clamp (show v < 2 ^ 31 by omega), pg v hvs, hl]
              refine And.intro (fun _ => ?_) (fun cz => absurd (show eM (some (m - (i + 1))) = eM (some ((m - (i + 1)) + 1)) - 1 from (nI_pred _).symm) cz)
              exact go_loc (lv' := [(9, .int (nI x)), (8, .int (nI i)), (7, .int (nI v)), (6, .int (nI u)), (0, .ref o), (1, .int (nI i1)), (2, .int (nI j1)), (3, .int (nI n1)), (4, .int (nI n))]) ⟨rfl, rfl, rfl, rfl, rfl, rfl, rfl, rfl, rfl, trivial⟩ (out)
            | succ p ih2 =>
              intro x hx hvx
              have hxv : x ^^^ v < 2048 := Nat.xor_lt_two_pow (n := 11) (by omega) (by omega)
              have hpl := pqN_le (x ^^^ v).testBit 11
              have skip : Go l G 12 s_X12_stage 0 0 Post 107 [(9, .int (nI x)), (8, .int (nI i)), (7, .int (nI v)), (6, .int (nI u)), (0, .ref o), (1, .int (nI i1)), (2, .int (nI j1)), (3, .int (nI n1)), (4, .int (nI n))] [] h1 nx 0 0 := by
                have := ih2 (x + 1) (by omega) (by omega)
                rw [nI_succ] at this
                refine Go.of hX.2 ck_X12_stage [56] 10 ?_
                exact go_loc (lv' := [(9, .int (nI x + 1)), (8, .int (nI i)), (7, .int (nI v)), (6, .int (nI u)), (0, .ref o), (1, .int (nI i1)), (2, .int (nI j1)), (3, .int (nI n1)), (4, .int (nI n))]) ⟨rfl, rfl, rfl, rfl, rfl, rfl, rfl, rfl, rfl, trivial⟩ (this)
              refine Go.of hX.2 ck_X12_stage [107, 113] 60 ?_
              by_cases x1 : ∀ i, x.testBit i = true → u.testBit i = true
              · refine And.intro (fun cz => absurd ((nsub (by omega)).mpr x1) cz) (fun _ => ?_)
                by_cases x2 : ∀ i, v.testBit i = true → x.testBit i = true
                · refine And.intro (fun cz => absurd ((nsub (by omega)).mpr x2) cz) (fun _ => ?_)
                  refine Exists.intro 0 (Exists.intro 0 (And.intro (Nat.le_refl _) (And.intro (Nat.le_refl _) ?_)))
                  rw [nx_xor]
                  refine m_bits hX hxv ?_
                  by_cases x3 : pqN (x ^^^ v).testBit 11 ≤ n1
                  · refine And.intro (fun cz => absurd cz (nI_nlt x3 (by omega))) (fun _ => ?_)
                    refine Exists.intro _ (And.intro y1.1.1 (Exists.intro _ (And.intro (y1.1.2.2 56 (by decide)) ?_)))
                    refine Exists.intro _ (Exists.intro _ (And.intro eg (And.intro (vp_in_nI (show x < 2048 by omega) (by decide)) ?_)))
                    rw [nI_clamp (show x < 2 ^ 31 by omega), pg x x1]
                    refine Exists.intro _ (And.intro y1.1.1 (Exists.intro _ (And.intro (y1.1.2.2 56 (by decide)) ?_)))
                    refine Exists.intro _ (Exists.intro _ (And.intro eg (And.intro (vp_in_nI (show v < 2048 by omega) (by decide)) ?_)))
                    rw [nI_clamp (show v < 2 ^ 31 by omega), pg v hvs, hl]
                    have hne : ¬ eM (LVo u n1 sf x) = eM (some ((m - (i + 1)) + 1)) - 1 := fun z => by
                      have z2 : eM (LVo u n1 sf x) = nI (m - (i + 1)) := z.trans (nI_pred _)
                      cases hq : LVo u n1 sf x with
                      | none =>
                        rw [hq] at z2
                        exact absurd z2 (show (-1 : Int32) ≠ nI (m - (i + 1)) from fun y => (nI_n2 (by omega)).2.2 y.symm)
                      | some q2 =>
                        rw [hq] at z2
                        have hq2 := LVo_lt hu hq
                        have e5 : q2 = m - (i + 1) := (nI_eq (by omega) (by omega)).mp z2
                        have := hn2 x ⟨⟨hvx, x2, x1, x3⟩, _, hl, by rw [hq, e5]⟩
                        omega
                    refine And.intro (fun cz => absurd cz (hne)) (fun _ => ?_)
                    exact go_loc (lv' := [(9, .int (nI x)), (8, .int (nI i)), (7, .int (nI v)), (6, .int (nI u)), (0, .ref o), (1, .int (nI i1)), (2, .int (nI j1)), (3, .int (nI n1)), (4, .int (nI n))]) ⟨rfl, rfl, rfl, rfl, rfl, rfl, rfl, rfl, rfl, trivial⟩ (skip)
                  · refine And.intro (fun _ => ?_) (fun cz => absurd (nI_lt (a := n1) (b := pqN (x ^^^ v).testBit 11) (by omega) (by omega)) cz)
                    exact go_loc (lv' := [(9, .int (nI x)), (8, .int (nI i)), (7, .int (nI v)), (6, .int (nI u)), (0, .ref o), (1, .int (nI i1)), (2, .int (nI j1)), (3, .int (nI n1)), (4, .int (nI n))]) ⟨rfl, rfl, rfl, rfl, rfl, rfl, rfl, rfl, rfl, trivial⟩ (skip)
                · refine And.intro (fun _ => ?_) (fun cz => absurd cz (fun z => x2 ((nsub (by omega)).mp z)))
                  exact go_loc (lv' := [(9, .int (nI x)), (8, .int (nI i)), (7, .int (nI v)), (6, .int (nI u)), (0, .ref o), (1, .int (nI i1)), (2, .int (nI j1)), (3, .int (nI n1)), (4, .int (nI n))]) ⟨rfl, rfl, rfl, rfl, rfl, rfl, rfl, rfl, rfl, trivial⟩ (skip)
              · refine And.intro (fun _ => ?_) (fun cz => absurd cz (fun z => x1 ((nsub (by omega)).mp z)))
                exact go_loc (lv' := [(9, .int (nI x)), (8, .int (nI i)), (7, .int (nI v)), (6, .int (nI u)), (0, .ref o), (1, .int (nI i1)), (2, .int (nI j1)), (3, .int (nI n1)), (4, .int (nI n))]) ⟨rfl, rfl, rfl, rfl, rfl, rfl, rfl, rfl, rfl, trivial⟩ (skip)
          have := inner (nxO u n1 sf v - (v + 1)) (v + 1) (by have := hn1.1.1; omega) (Nat.lt_succ_self v)
          rw [nI_succ] at this
          refine Go.of hX.2 ck_X12_stage [56] 20 ?_
          refine And.intro (fun cz => absurd cz (nI_nlt (a := n) (b := i) (by omega) (by omega))) (fun _ => ?_)
          exact go_loc (lv' := [(9, .int (nI v + 1)), (8, .int (nI i)), (7, .int (nI v)), (6, .int (nI u)), (0, .ref o), (1, .int (nI i1)), (2, .int (nI j1)), (3, .int (nI n1)), (4, .int (nI n))]) ⟨rfl, rfl, rfl, rfl, rfl, rfl, rfl, rfl, rfl, trivial⟩ (this)
      exact go_loc (lv' := [(8, .int (nI 0)), (7, .int (nI 0)), (6, .int (nI u)), (0, .ref o), (1, .int (nI i1)), (2, .int (nI j1)), (3, .int (nI n1)), (4, .int (nI n))]) ⟨rfl, rfl, rfl, rfl, rfl, rfl, rfl, rfl, trivial⟩ (loop (n + 1) 0 0 (by omega) rfl)
