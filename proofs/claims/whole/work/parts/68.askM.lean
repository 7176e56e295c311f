/-! the model asked about a hut -/
/-- the fields of the model that huts and what is reached change -/
def fHut (k : Nat) : Bool := decide (k = 61 ∨ k = 62 ∨ k = 68 ∨ k = 73 ∨ k = 74)
/-- what asking about huts leaves: o's fields and rows but for the huts' -/
def MH (h : AH) (o : Nat) (fs : List Value) (h1 : AH) (fs1 : List Value) : Prop := MA h1 o fs1 ∧ SHm h1 o ∧ (∀ k, fHut k = false → fs1[k]? = fs[k]?) ∧ (∀ a, (a < o ∨ (o < a ∧ a < o + 1 + 35) ∨ o + 1 + 49 ≤ a) → h1 a = h a)
theorem MH.tr {h h1 h2 : AH} {o : Nat} {fs fs1 fs2 : List Value} (a : MH h o fs h1 fs1) (b : MH h1 o fs1 h2 fs2) : MH h o fs h2 fs2 := ⟨b.1, b.2.1, fun k hk => (b.2.2.1 k hk).trans (a.2.2.1 k hk), fun x hx => (b.2.2.2 x hx).trans (a.2.2.2 x hx)⟩
theorem MH.rf {h : AH} {o : Nat} {fs : List Value} (hM : MA h o fs) (hS : SHm h o) : MH h o fs h fs := ⟨hM, hS, fun _ _ => rfl, fun _ _ => rfl⟩
theorem MH.pg {h h1 : AH} {o d : Nat} {fs fs1 : List Value} {D : DD} (a : MH h o fs h1 fs1) (hD : MPg h o d D) : MPg h1 o d D := hD.ag (fun j hj => a.2.2.2 _ (by omega))
theorem MH.f {h h1 : AH} {o : Nat} {fs fs1 : List Value} (a : MH h o fs h1 fs1) {k : Nat} {v : Value} (hk : fHut k = false) (e : fs[k]? = some v) : fs1[k]? = some v := (a.2.2.1 k hk).trans e
set_option maxHeartbeats 8000000 in
theorem m_builds1 {l : Launch} {G : GG} {h : AH} {nx : Nat} {Post : Option Value → AH → Nat → Prop} {o hh d : Nat} {D : DD} {f g : Int32} {fs : List Value} (hX : XC G ∧ TX l G) (hM : MA h o fs) (hS : SHm h o) (f19 : fs[19]? = some (.int (nI d))) (hD : MPg h o d D) (hw : WD D) (hhh : hh < 2) (hf : vFn (dK D) (dR D) (dow D) f = true) (hg : vFn (dK D) (dR D) (dow D) g = true) (hP : ∀ (h1 : AH) (fs1 : List Value), MH h o fs h1 fs1 → WK (kFG D f g) → HB h1 o hh (kFG D f g) → (∀ q h2, h2 ≠ hh → h2 < 2 → WK q → HB h o h2 q → HB h1 o h2 q) → Post none h1 nx) : Runs l G i_X12_builds 0 0 [.ref o, .int (nI hh), .int f, .int g] h nx Post := by
  have hf1 := fOf_n hw hf
  have hg1 := fOf_n hw hg
  rw [← hf1.1, ← hg1.1]
  exact m_builds hX hM hS f19 hD hw hhh hf1.2 hg1.2 (fun h1 fs1 x1 x2 x3 x4 x5 x6 => hP h1 fs1 ⟨x1, x2, fun k hk => x3 k (fun z => by rw [z] at hk; cases hk) (fun z => by rw [z] at hk; cases hk), fun a ha => x4 a (by omega)⟩ (WK_one hw hf1.2 hg1.2) x5 x6)
set_option maxHeartbeats 8000000 in
theorem m_goesThrough {l : Launch} {G : GG} {h : AH} {nx : Nat} {Post : Option Value → AH → Nat → Prop} {o d : Nat} {D : DD} {f g : Int32} {fs : List Value} (hX : XC G ∧ TX l G) (hM : MA h o fs) (hS : SHm h o) (f19 : fs[19]? = some (.int (nI d))) (hD : MPg h o d D) (hw : WD D) (hf : vFn (dK D) (dR D) (dow D) f = true) (hg : vFn (dK D) (dR D) (dow D) g = true) (hP : ∀ (h1 : AH) (fs1 : List Value), MH h o fs h1 fs1 → RHm h1 o (kFG D f g) fs1 → WK (kFG D f g) → Post none h1 nx) : Runs l G i_X12_goesThrough 0 0 [.ref o, .int f, .int g] h nx Post := by
  refine en_X12_goesThrough hX [] 30 rfl ?_
  refine Exists.intro _ (And.intro hM.1 (Exists.intro 0 (Exists.intro 0 (And.intro (Nat.le_refl _) (And.intro (Nat.le_refl _) (m_builds1 (hh := 1) hX hM hS f19 hD hw (by decide) hf hg (fun h1 fs1 y1 y2 y3 y4 => ?_)))))))
  refine Exists.intro _ (And.intro y1.1.1 (Exists.intro _ (And.intro (y1.f rfl f19) ?_)))
  refine Exists.intro _ (And.intro y1.1.1 (Exists.intro _ (And.intro (y1.f rfl f19) ?_)))
  refine Exists.intro _ (And.intro y1.1.1 (Exists.intro 0 (Exists.intro 0 (And.intro (Nat.le_refl _) (And.intro (Nat.le_refl _) (m_reaches (hh := 1) (q := kFG D f g) hX y1.1 y1.2.1 (by decide) y2 y3 (y1.pg hD) (y1.pg hD) (fun h2 fs2 z1 z2 z3 z4 z5 => ?_)))))))
  exact hP h2 fs2 (y1.tr ⟨z1, z2, fun k hk => z3 k (fun z => by rw [z] at hk; cases hk) (fun z => by rw [z] at hk; cases hk) (fun z => by rw [z] at hk; cases hk), fun a ha => z4 a (by omega)⟩) z5 y2
set_option maxHeartbeats 8000000 in
theorem m_start {l : Launch} {G : GG} {h : AH} {nx : Nat} {Post : Option Value → AH → Nat → Prop} {o d : Nat} {D : DD} {f g : Int32} {fs : List Value} (hX : XC G ∧ TX l G) (hM : MA h o fs) (hS : SHm h o) (f19 : fs[19]? = some (.int (nI d))) (hD : MPg h o d D) (hw : WD D) (hP : ∀ (h1 : AH) (fs1 : List Value), MH h o fs h1 fs1 → Post (some (.int (aStart D f g))) h1 nx) : Runs l G i_X12_start 0 0 [.ref o, .int f, .int g] h nx Post := by
  refine en_X12_start hX [] 40 rfl ?_
  refine Exists.intro _ (And.intro hM.1 (Exists.intro 0 (Exists.intro 0 (And.intro (Nat.le_refl _) (And.intro (Nat.le_refl _) (m_isHut hX hM f19 hD hw ?_))))))
  unfold aStart aHut at hP
  cases e : (vFn (dK D) (dR D) (dow D) f && vFn (dK D) (dR D) (dow D) g) with
  | false =>
    refine And.intro (fun cz => by first | exact absurd cz (by decide) | exact absurd (by decide) cz) (fun _ => ?_)
    have hP := hP h fs (MH.rf hM hS)
    rw [e, if_neg (by decide)] at hP
    exact And.intro rfl (hP)
  | true =>
    refine And.intro (fun _ => ?_) (fun cz => by first | exact absurd cz (by decide) | exact absurd (by decide) cz)
    rw [if_pos e] at hP
    rw [Bool.and_eq_true] at e
    refine Exists.intro _ (And.intro hM.1 (Exists.intro 0 (Exists.intro 0 (And.intro (Nat.le_refl _) (And.intro (Nat.le_refl _) (m_builds1 (hh := 1) hX hM hS f19 hD hw (by decide) e.1 e.2 (fun h1 fs1 y1 y2 y3 y4 => ?_)))))))
    refine Exists.intro _ (And.intro y1.1.1 (Exists.intro 0 (Exists.intro 0 (And.intro (Nat.le_refl _) (And.intro (Nat.le_refl _) (m_startOf (hh := 1) hX y1.1 (by decide) y2 y3 ?_))))))
    exact And.intro rfl (hP h1 fs1 y1)
set_option maxHeartbeats 8000000 in
theorem m_reached {l : Launch} {G : GG} {h : AH} {nx : Nat} {Post : Option Value → AH → Nat → Prop} {o d : Nat} {D : DD} {f g : Int32} {fs : List Value} (hX : XC G ∧ TX l G) (hM : MA h o fs) (hS : SHm h o) (f19 : fs[19]? = some (.int (nI d))) (hD : MPg h o d D) (hw : WD D) (hP : ∀ (h1 : AH) (fs1 : List Value), MH h o fs h1 fs1 → Post (some (.int (aReached D f g))) h1 nx) : Runs l G i_X12_reached 0 0 [.ref o, .int f, .int g] h nx Post := by
  refine en_X12_reached hX [] 40 rfl ?_
  refine Exists.intro _ (And.intro hM.1 (Exists.intro 0 (Exists.intro 0 (And.intro (Nat.le_refl _) (And.intro (Nat.le_refl _) (m_isHut hX hM f19 hD hw ?_))))))
  unfold aReached aHut at hP
  cases e : (vFn (dK D) (dR D) (dow D) f && vFn (dK D) (dR D) (dow D) g) with
  | false =>
    refine And.intro (fun cz => by first | exact absurd cz (by decide) | exact absurd (by decide) cz) (fun _ => ?_)
    have hP := hP h fs (MH.rf hM hS)
    rw [e, if_neg (by decide)] at hP
    exact And.intro rfl (hP)
  | true =>
    refine And.intro (fun _ => ?_) (fun cz => by first | exact absurd cz (by decide) | exact absurd (by decide) cz)
    rw [if_pos e] at hP
    rw [Bool.and_eq_true] at e
    refine Exists.intro _ (And.intro hM.1 (Exists.intro 0 (Exists.intro 0 (And.intro (Nat.le_refl _) (And.intro (Nat.le_refl _) (m_goesThrough hX hM hS f19 hD hw e.1 e.2 (fun h1 fs1 y1 y2 y3 => ?_)))))))
    obtain ⟨gr, gf, gb, _, _, _, r68, r73, r74, _⟩ := id y2
    refine Exists.intro _ (And.intro y1.1.1 (Exists.intro _ (And.intro r68 ?_)))
    exact And.intro rfl (hP h1 fs1 y1)
set_option maxHeartbeats 8000000 in
theorem m_races {l : Launch} {G : GG} {h : AH} {nx : Nat} {Post : Option Value → AH → Nat → Prop} {o d : Nat} {D : DD} {f g : Int32} {fs : List Value} (hX : XC G ∧ TX l G) (hM : MA h o fs) (hS : SHm h o) (f19 : fs[19]? = some (.int (nI d))) (hD : MPg h o d D) (hw : WD D) (hP : ∀ (h1 : AH) (fs1 : List Value), MH h o fs h1 fs1 → Post (some (.int (aRaces D f g))) h1 nx) : Runs l G i_X12_races 0 0 [.ref o, .int f, .int g] h nx Post := by
  refine en_X12_races hX [] 40 rfl ?_
  refine Exists.intro _ (And.intro hM.1 (Exists.intro 0 (Exists.intro 0 (And.intro (Nat.le_refl _) (And.intro (Nat.le_refl _) (m_isHut hX hM f19 hD hw ?_))))))
  unfold aRaces aHut at hP
  cases e : (vFn (dK D) (dR D) (dow D) f && vFn (dK D) (dR D) (dow D) g) with
  | false =>
    refine And.intro (fun cz => by first | exact absurd cz (by decide) | exact absurd (by decide) cz) (fun _ => ?_)
    have hP := hP h fs (MH.rf hM hS)
    rw [e, if_neg (by decide)] at hP
    exact And.intro rfl (hP)
  | true =>
    refine And.intro (fun _ => ?_) (fun cz => by first | exact absurd cz (by decide) | exact absurd (by decide) cz)
    rw [if_pos e] at hP
    rw [Bool.and_eq_true] at e
    refine Exists.intro _ (And.intro hM.1 (Exists.intro 0 (Exists.intro 0 (And.intro (Nat.le_refl _) (And.intro (Nat.le_refl _) (m_goesThrough hX hM hS f19 hD hw e.1 e.2 (fun h1 fs1 y1 y2 y3 => ?_)))))))
    obtain ⟨gr, gf, gb, _, _, _, r68, r73, r74, _⟩ := id y2
    refine Exists.intro _ (And.intro y1.1.1 (Exists.intro _ (And.intro r73 ?_)))
    exact And.intro rfl (hP h1 fs1 y1)
theorem kWa_c {q : HKy} (hq : WK q) : kWa q = -1 ∨ ∃ j, j < (kFn q).1 ∧ kWa q = nI j ∧ j < 2048 := by
  have := kFn_2048 hq
  rcases wA_val (kW q) (kFn q).2.1 (kFn q).1 with e | ⟨j, a, b⟩
  · exact Or.inl e
  · exact Or.inr ⟨j, a, b, by omega⟩
set_option maxHeartbeats 8000000 in
theorem m_actsTo {l : Launch} {G : GG} {h : AH} {nx : Nat} {Post : Option Value → AH → Nat → Prop} {o : Nat} {q : HKy} {fs : List Value} (hX : XC G ∧ TX l G) (hM : MA h o fs) (hq : WK q) (hR : RHm h o q fs) (hne : kWa q ≠ -1) (hP : Post (some (.int (nI (kDp q)))) h nx) : Runs l G i_X12_actsTo 0 0 [.ref o, .int (kWa q)] h nx Post := by
  obtain ⟨gr, gf, gb, e45, e46, e47, r68, r73, r74, rl, r0, rr⟩ := hR
  rcases kWa_c hq with e | ⟨j, a, b, c⟩
  · exact absurd e hne
  · unfold kDp at hP
    rw [b, nI_clamp (by omega)] at hP
    rw [b]
    exact c_actsTo (fr := kFr q) hX hM e46 rl (r0 (by omega)) (fun i h0 hi => ⟨((rr i hi).2.2 h0).1, ((rr i hi).2.2 h0).2.2.1⟩) a hP
set_option maxHeartbeats 8000000 in
theorem m_bad {l : Launch} {G : GG} {h : AH} {nx : Nat} {Post : Option Value → AH → Nat → Prop} {o d : Nat} {D : DD} {f g : Int32} {fs : List Value} (hX : XC G ∧ TX l G) (hM : MA h o fs) (hS : SHm h o) (f19 : fs[19]? = some (.int (nI d))) (hD : MPg h o d D) (hw : WD D) (hP : ∀ (h1 : AH) (fs1 : List Value), MH h o fs h1 fs1 → (aHut D f g = true → RHm h1 o (kFG D f g) fs1 ∧ WK (kFG D f g)) → Post (some (.int (aBad D f g))) h1 nx) : Runs l G i_X12_bad 0 0 [.ref o, .int f, .int g] h nx Post := by
  refine en_X12_bad hX [] 60 rfl ?_
  refine Exists.intro _ (And.intro hM.1 (Exists.intro 0 (Exists.intro 0 (And.intro (Nat.le_refl _) (And.intro (Nat.le_refl _) (m_isHut hX hM f19 hD hw ?_))))))
  unfold aBad at hP
  cases e : (vFn (dK D) (dR D) (dow D) f && vFn (dK D) (dR D) (dow D) g) with
  | false =>
    refine And.intro (fun cz => by first | exact absurd cz (by decide) | exact absurd (by decide) cz) (fun _ => ?_)
    have hP := hP h fs (MH.rf hM hS) (fun z => absurd (e.symm.trans z) (by decide))
    rw [show aHut D f g = false from e, if_neg (by decide)] at hP
    exact And.intro rfl (hP)
  | true =>
    refine And.intro (fun _ => ?_) (fun cz => by first | exact absurd cz (by decide) | exact absurd (by decide) cz)
    rw [if_pos (show aHut D f g = true from e)] at hP
    rw [Bool.and_eq_true] at e
    refine Exists.intro _ (And.intro hM.1 (Exists.intro 0 (Exists.intro 0 (And.intro (Nat.le_refl _) (And.intro (Nat.le_refl _) (m_goesThrough hX hM hS f19 hD hw e.1 e.2 (fun h1 fs1 y1 y2 y3 => ?_)))))))
    obtain ⟨gr, gf, gb, _, _, _, r68, r73, r74, _⟩ := id y2
    have hP := hP h1 fs1 y1 (fun _ => ⟨y2, y3⟩)
    refine Exists.intro _ (And.intro y1.1.1 (Exists.intro _ (And.intro r74 ?_)))
    unfold kBad at hP
    by_cases c1 : kWa (kFG D f g) = -1
    · refine And.intro (fun cz => absurd cz (fun z => z c1)) (fun _ => ?_)
      rw [if_pos c1] at hP
      exact And.intro rfl (hP)
    · refine And.intro (fun _ => ?_) (fun cz => absurd cz (c1))
      rw [if_neg c1] at hP
      refine Exists.intro _ (And.intro y1.1.1 (Exists.intro _ (And.intro r74 ?_)))
      refine Exists.intro _ (And.intro y1.1.1 (Exists.intro 0 (Exists.intro 0 (And.intro (Nat.le_refl _) (And.intro (Nat.le_refl _) (m_actsTo hX y1.1 y3 y2 c1 ?_))))))
      exact And.intro rfl (hP)
theorem kDp_pos {q : HKy} (h : kBad q < 0) : kWa q = -1 ∨ 2 ^ 31 ≤ kDp q := by
  unfold kBad at h
  split at h
  · next e => exact Or.inl e
  · by_cases z : kDp q < 2 ^ 31
    · exact absurd h (nI_pos z)
    · exact Or.inr (by omega)
theorem kDp_le {q : HKy} (hq : WK q) : kDp q ≤ 2048 ∧ (kWa q ≠ -1 → kDp q ≤ (kWa q).toNatClampNeg ∧ (kWa q).toNatClampNeg < (kFn q).1 ∧ kWa q = nI (kWa q).toNatClampNeg) := by
  have h1 := kFn_2048 hq
  have hor : ∀ j, 0 < j → j < (kFn q).1 → kFr q j < j := by
    rcases kSe_c hq (on := 0) (kSt_up hq).2 with e | ⟨s, a, e, c⟩
    · intro j _ hj
      rw [kFn_race e] at hj
      exact absurd hj (Nat.not_lt_zero j)
    · have hp := hq.1.pr
      have ho := orgB_K (nb := kNb q) (n := dI (kD q)) (by have := hq.1.i; omega) (orgB_S0 s) 2048
      intro j h0 hj
      unfold kFr
      rw [kFn_go e (by omega)] at hj ⊢
      exact (ho j h0 hj).1
  rcases kWa_c hq with e | ⟨j, a, b, c⟩
  · refine ⟨?_, fun z => absurd e z⟩
    unfold kDp
    rw [e]
    show 0 ≤ 2048
    decide
  · have e2 : (kWa q).toNatClampNeg = j := by rw [b, nI_clamp (by omega)]
    have h2 : kDp q ≤ j := by
      unfold kDp
      rw [e2]
      exact dpF_le hor j j (Nat.le_refl _) a
    refine ⟨by omega, fun _ => ?_⟩
    rw [e2]
    exact ⟨h2, a, b⟩
set_option maxHeartbeats 8000000 in
theorem m_badAct {l : Launch} {G : GG} {h : AH} {nx : Nat} {Post : Option Value → AH → Nat → Prop} {o d : Nat} {D : DD} {f g i : Int32} {fs : List Value} (hX : XC G ∧ TX l G) (hM : MA h o fs) (hS : SHm h o) (f19 : fs[19]? = some (.int (nI d))) (hD : MPg h o d D) (hw : WD D) (hP : ∀ (h1 : AH) (fs1 : List Value), MH h o fs h1 fs1 → Post (some (.int (aBadAct D f g i))) h1 nx) : Runs l G i_X12_badAct 0 0 [.ref o, .int f, .int g, .int i] h nx Post := by
  refine en_X12_badAct hX [47] 60 rfl ?_
  refine Exists.intro _ (And.intro hM.1 (Exists.intro 0 (Exists.intro 0 (And.intro (Nat.le_refl _) (And.intro (Nat.le_refl _) (m_bad hX hM hS f19 hD hw (fun h1 fs1 y1 y2 => ?_)))))))
  have hP := hP h1 fs1 y1
  unfold aBadAct at hP
  unfold aBad
  cases e : aHut D f g with
  | false =>
    rw [e, if_neg (by decide)] at hP
    rw [if_neg (by decide)]
    refine And.intro (fun cz => by first | exact absurd cz (by decide) | exact absurd (by decide) cz) (fun _ => ?_)
    exact And.intro rfl (hP)
  | true =>
    obtain ⟨hR, hq⟩ := y2 e
    rw [if_pos e] at hP
    rw [if_pos rfl]
    have hdl := kDp_le hq
    unfold kAct at hP
    by_cases c1 : kWa (kFG D f g) = -1
    · rw [if_pos (Or.inl c1)] at hP
      rw [show kBad (kFG D f g) = -2 from if_pos c1]
      refine And.intro (fun cz => by first | exact absurd cz (by decide) | exact absurd (by decide) cz) (fun _ => ?_)
      exact And.intro rfl (hP)
    · rw [show kBad (kFG D f g) = nI (kDp (kFG D f g)) from if_neg c1]
      refine And.intro (fun _ => ?_) (fun cz => absurd (nI_pos' (by omega)) cz)
      obtain ⟨gr, gf, gb, e45, e46, e47, r68, r73, r74, rl, r0, rr⟩ := id hR
      obtain ⟨k1, k2, k3⟩ := hdl.2 c1
      refine Exists.intro _ (And.intro y1.1.1 (Exists.intro _ (And.intro r74 ?_)))
      refine Exists.intro _ (And.intro y1.1.1 (Exists.intro 0 (Exists.intro 0 (And.intro (Nat.le_refl _) (And.intro (Nat.le_refl _) (m_actsTo hX y1.1 hq hR c1 ?_))))))
      refine Exists.intro 0 (Exists.intro 0 (And.intro (Nat.le_refl _) (And.intro (Nat.le_refl _) (c_in hX ?_))))
      by_cases c2 : i < 0
      · rw [if_pos (Or.inr (Or.inl c2))] at hP
        rw [if_neg (fun z => absurd c2 (Int32.not_lt.mpr z.1))]
        refine And.intro (fun cz => by first | exact absurd cz (by decide) | exact absurd (by decide) cz) (fun _ => ?_)
        exact And.intro rfl (hP)
      · obtain ⟨j, hj, rfl⟩ := nI_of c2
        by_cases c3 : kDp (kFG D f g) ≤ j
        · rw [if_pos (Or.inr (Or.inr (nI_le c3 hj)))] at hP
          rw [if_neg (fun z => by
            have z2 := z.2
            cases hd : kDp (kFG D f g) with
            | zero =>
              rw [hd] at z2
              exact absurd (Int32.le_trans (nI_pos' hj) z2) (by decide)
            | succ m =>
              rw [hd, nI_pred] at z2
              exact absurd z2 (nI_ge (by omega) hj))]
          refine And.intro (fun cz => by first | exact absurd cz (by decide) | exact absurd (by decide) cz) (fun _ => ?_)
          exact And.intro rfl (hP)
        · rw [if_neg (fun z => by
            rcases z with z | z | z
            · exact c1 z
            · exact c2 z
            · exact absurd z (nI_ge (by omega) (by omega)))] at hP
          rw [nI_clamp hj] at hP
          have e5 : nI (kDp (kFG D f g)) - 1 = nI (kDp (kFG D f g) - 1) := nI_sub (b := 1) (by omega)
          rw [e5, if_pos ⟨nI_pos' hj, nI_le (by omega) (by omega)⟩]
          refine And.intro (fun _ => ?_) (fun cz => by first | exact absurd cz (by decide) | exact absurd (by decide) cz)
          refine Exists.intro _ (And.intro y1.1.1 (Exists.intro _ (And.intro r74 ?_)))
          have loop : ∀ (m at_ : Nat), at_ < (kFn (kFG D f g)).1 → dpF (kFr (kFG D f g)) at_ at_ = j + 1 + m → Post (some (.int (nI ((kFn (kFG D f g)).2.2.1 (bkF (kFr (kFG D f g)) m at_)).2))) h1 nx → Go l G 12 s_X12_badAct 0 0 Post 47 [(6, .int (nI (j + m))), (5, .int (nI at_)), (4, .int (nI (kDp (kFG D f g)))), (0, .ref o), (1, .int f), (2, .int g), (3, .int (nI j))] [] h1 nx 0 0 := by
            intro m
            induction m with
            | zero =>
              intro at_ ha hdp hQ
              have h0 : 0 < at_ := by
                rcases Nat.eq_zero_or_pos at_ with z | z
                · rw [z] at hdp; have : dpF (kFr (kFG D f g)) 0 0 = 0 := rfl; omega
                · exact z
              have hQ2 : Post (some (.int (nI ((kFn (kFG D f g)).2.2.1 at_).2))) h1 nx := hQ
              refine Go.of hX.2 ck_X12_badAct [47] 40 ?_
              refine And.intro (fun _ => ?_) (fun cz => absurd (nI_le (Nat.le_refl j) (by omega)) cz)
              refine Exists.intro _ (And.intro y1.1.1 (Exists.intro _ (And.intro (y1.1.2.2 47 (by decide)) ?_)))
              refine Exists.intro _ (Exists.intro _ (And.intro e47 (And.intro (vp_in_nI (by omega) (by decide)) ?_)))
              rw [nI_clamp (by omega), ((rr at_ ha).2.2 h0).2.1]
              exact And.intro rfl hQ2
            | succ m ih =>
              intro at_ ha hdp hQ
              have h0 : 0 < at_ := by
                rcases Nat.eq_zero_or_pos at_ with z | z
                · rw [z] at hdp; have : dpF (kFr (kFG D f g)) 0 0 = 0 := rfl; omega
                · exact z
              obtain ⟨q1, q2, q3, q4⟩ := (rr at_ ha).2.2 h0
              have hq3 : kFr (kFG D f g) at_ < at_ := q3
              have hdl2 : dpF (kFr (kFG D f g)) (kFr (kFG D f g) at_) (kFr (kFG D f g) at_) ≤ kFr (kFG D f g) at_ := dpF_le (fr := kFr (kFG D f g)) (Fn := (kFn (kFG D f g)).1) (fun a z1 z2 => ((rr a z2).2.2 z1).2.2.1) _ _ (Nat.le_refl _) (by omega)
              rw [dpF_s (fr := kFr (kFG D f g)) (Fn := (kFn (kFG D f g)).1) (fun a z1 z2 => ((rr a z2).2.2 z1).2.2.1) h0 ha] at hdp
              refine Go.of hX.2 ck_X12_badAct [47] 40 ?_
              refine And.intro (fun cz => absurd cz (nI_ge (by omega) (by omega))) (fun _ => ?_)
              refine Exists.intro _ (And.intro y1.1.1 (Exists.intro _ (And.intro (y1.1.2.2 46 (by decide)) ?_)))
              refine Exists.intro _ (Exists.intro _ (And.intro e46 (And.intro (vp_in_nI (by omega) (by decide)) ?_)))
              rw [nI_clamp (by omega), q1]
              refine go_loc (lv' := [(6, .int (nI (j + (m + 1)) + (-1))), (5, .int (nI (kFr (kFG D f g) at_))), (4, .int (nI (kDp (kFG D f g)))), (0, .ref o), (1, .int f), (2, .int g), (3, .int (nI j))]) ⟨rfl, rfl, rfl, rfl, rfl, rfl, rfl, trivial⟩ ?_
              rw [show j + (m + 1) = (j + m) + 1 by omega, pk_m1]
              exact ih _ (by omega) (by omega) hQ
          rw [k3]
          refine go_loc (lv' := [(6, .int (nI (kDp (kFG D f g)) - 1)), (5, .int (nI (kWa (kFG D f g)).toNatClampNeg)), (4, .int (nI (kDp (kFG D f g)))), (0, .ref o), (1, .int f), (2, .int g), (3, .int (nI j))]) ⟨rfl, rfl, rfl, rfl, rfl, rfl, rfl, trivial⟩ ?_
          rw [e5, show kDp (kFG D f g) - 1 = j + (kDp (kFG D f g) - 1 - j) by omega]
          exact loop _ _ k2 (show kDp (kFG D f g) = _ by omega) hP
set_option maxHeartbeats 8000000 in
theorem m_settles {l : Launch} {G : GG} {h : AH} {nx : Nat} {Post : Option Value → AH → Nat → Prop} {o d : Nat} {D : DD} {f g on up : Int32} {fs : List Value} (hX : XC G ∧ TX l G) (hM : MA h o fs) (hS : SHm h o) (f19 : fs[19]? = some (.int (nI d))) (hD : MPg h o d D) (hw : WD D) (hP : ∀ (h1 : AH) (fs1 : List Value), MH h o fs h1 fs1 → Post (some (.int (aSettles D f g on up))) h1 nx) : Runs l G i_X12_settles 0 0 [.ref o, .int f, .int g, .int on, .int up] h nx Post := by
  have hd := hD.2.2.2.2.2.2.2
  obtain ⟨⟨_, _, _, _, gR, _, _, _, _, _, _, _, _, e10, _, _, _, _, _, _, _, pR, _⟩, _, _, ⟨gI, eI, pI⟩, _⟩ := id hD
  have hi := hw.i
  have hr := hw.r
  have hpi := hw.pi
  have hpr := hw.pr
  refine en_X12_settles hX [] 80 rfl ?_
  refine Exists.intro _ (And.intro hM.1 (Exists.intro 0 (Exists.intro 0 (And.intro (Nat.le_refl _) (And.intro (Nat.le_refl _) (m_isHut hX hM f19 hD hw ?_))))))
  unfold aSettles at hP
  cases e : (vFn (dK D) (dR D) (dow D) f && vFn (dK D) (dR D) (dow D) g) with
  | false =>
    refine And.intro (fun _ => ?_) (fun cz => by first | exact absurd cz (by decide) | exact absurd (by decide) cz)
    have hP := hP h fs (MH.rf hM hS)
    rw [if_neg (fun z => absurd (e.symm.trans z.1) (by decide))] at hP
    exact And.intro rfl (hP)
  | true =>
    refine And.intro (fun cz => by first | exact absurd cz (by decide) | exact absurd (by decide) cz) (fun _ => ?_)
    refine Exists.intro _ (And.intro hM.1 (Exists.intro _ (And.intro (hM.2.2 7 (by decide)) ?_)))
    refine Exists.intro _ (And.intro hM.1 (Exists.intro _ (And.intro f19 ?_)))
    refine Exists.intro _ (Exists.intro _ (And.intro eI (And.intro (vp_in_nI hd (by decide)) ?_)))
    rw [nI_clamp (by omega), pI]
    refine Exists.intro _ (And.intro hM.1 (Exists.intro 0 (Exists.intro 0 (And.intro (Nat.le_refl _) (And.intro (Nat.le_refl _) (c_all hX (by omega) ?_))))))
    refine Exists.intro 0 (Exists.intro 0 (And.intro (Nat.le_refl _) (And.intro (Nat.le_refl _) (c_in hX ?_))))
    have hin : ∀ (x : Int32) (n : Nat), n < 31 → ((0 ≤ x ∧ x ≤ nI (2 ^ n - 1)) ↔ inB x n = true) := fun x n hn => by
      have hp : 2 ^ n < 2 ^ 31 := Nat.pow_lt_pow_right (by decide) hn
      have hp0 : 0 < 2 ^ n := Nat.two_pow_pos n
      rw [inB_c hn]
      constructor
      · rintro ⟨z1, z2⟩
        obtain ⟨j, hj, rfl⟩ := nI_of (Int32.not_lt.mpr z1)
        exact ⟨j, by have := (nI_leI hj (by omega)).mp z2; omega, rfl⟩
      · rintro ⟨j, hj, rfl⟩
        exact ⟨nI_pos' (by omega), nI_le (by omega) (by omega)⟩
    cases c1 : inB on (dI D) with
    | false =>
      rw [if_neg (fun z => by rw [(hin on _ (by omega)).mp z] at c1; cases c1)]
      refine And.intro (fun _ => ?_) (fun cz => by first | exact absurd cz (by decide) | exact absurd (by decide) cz)
      have hP := hP h fs (MH.rf hM hS)
      rw [c1, Bool.false_and, if_neg (fun z => absurd z.2 (by decide))] at hP
      exact And.intro rfl (hP)
    | true =>
      rw [if_pos ((hin on _ (by omega)).mpr c1)]
      refine And.intro (fun cz => by first | exact absurd cz (by decide) | exact absurd (by decide) cz) (fun _ => ?_)
      refine Exists.intro _ (And.intro hM.1 (Exists.intro _ (And.intro (hM.2.2 10 (by decide)) ?_)))
      refine Exists.intro _ (And.intro hM.1 (Exists.intro _ (And.intro f19 ?_)))
      refine Exists.intro _ (Exists.intro _ (And.intro e10 (And.intro (vp_in_nI hd (by decide)) ?_)))
      rw [nI_clamp (by omega), pR]
      refine Exists.intro _ (And.intro hM.1 (Exists.intro 0 (Exists.intro 0 (And.intro (Nat.le_refl _) (And.intro (Nat.le_refl _) (c_all hX (by omega) ?_))))))
      refine Exists.intro 0 (Exists.intro 0 (And.intro (Nat.le_refl _) (And.intro (Nat.le_refl _) (c_in hX ?_))))
      cases c2 : inB up (dR D) with
      | false =>
        rw [if_neg (fun z => by rw [(hin up _ (by omega)).mp z] at c2; cases c2)]
        refine And.intro (fun cz => by first | exact absurd cz (by decide) | exact absurd (by decide) cz) (fun _ => ?_)
        have hP := hP h fs (MH.rf hM hS)
        rw [c2, Bool.and_false, if_neg (fun z => absurd z.2 (by decide))] at hP
        exact And.intro rfl (hP)
      | true =>
        rw [if_pos ((hin up _ (by omega)).mpr c2)]
        refine And.intro (fun _ => ?_) (fun cz => by first | exact absurd cz (by decide) | exact absurd (by decide) cz)
        rw [if_pos ⟨e, by rw [c1, c2]; rfl⟩] at hP
        obtain ⟨jo, ho, rfl⟩ := (inB_c (by omega)).mp c1
        obtain ⟨ju, hu, rfl⟩ := (inB_c (by omega)).mp c2
        rw [nI_clamp (by omega), nI_clamp (by omega)] at hP
        rw [Bool.and_eq_true] at e
        refine Exists.intro _ (And.intro hM.1 (Exists.intro 0 (Exists.intro 0 (And.intro (Nat.le_refl _) (And.intro (Nat.le_refl _) (m_builds1 (hh := 1) hX hM hS f19 hD hw (by decide) e.1 e.2 (fun h1 fs1 y1 y2 y3 y4 => ?_)))))))
        refine Exists.intro _ (And.intro y1.1.1 (Exists.intro 0 (Exists.intro 0 (And.intro (Nat.le_refl _) (And.intro (Nat.le_refl _) (m_placed (hh := 1) hX y1.1 (by decide) y3 ?_))))))
        refine Exists.intro _ (And.intro y1.1.1 (Exists.intro 0 (Exists.intro 0 (And.intro (Nat.le_refl _) (And.intro (Nat.le_refl _) (m_behind (hh := 1) hX y1.1 (by decide) y2 y3 ho (kPl_lt y2 hu) ?_))))))
        exact And.intro rfl (hP h1 fs1 y1)
set_option maxHeartbeats 8000000 in
theorem m_shows {l : Launch} {G : GG} {h : AH} {nx : Nat} {Post : Option Value → AH → Nat → Prop} {o d : Nat} {D : DD} {f g on up : Int32} {fs : List Value} (hX : XC G ∧ TX l G) (hM : MA h o fs) (hS : SHm h o) (f19 : fs[19]? = some (.int (nI d))) (hD : MPg h o d D) (hw : WD D) (hP : ∀ (h1 : AH) (fs1 : List Value), MH h o fs h1 fs1 → Post (some (.int (aShows D f g on up))) h1 nx) : Runs l G i_X12_shows 0 0 [.ref o, .int f, .int g, .int on, .int up] h nx Post := by
  have hd := hD.2.2.2.2.2.2.2
  obtain ⟨⟨_, _, _, _, gR, _, _, _, _, _, _, _, _, e10, _, _, _, _, _, _, _, pR, _⟩, _, _, ⟨gI, eI, pI⟩, _⟩ := id hD
  have hi := hw.i
  have hr := hw.r
  have hpi := hw.pi
  have hpr := hw.pr
  refine en_X12_shows hX [] 80 rfl ?_
  refine Exists.intro _ (And.intro hM.1 (Exists.intro 0 (Exists.intro 0 (And.intro (Nat.le_refl _) (And.intro (Nat.le_refl _) (m_isHut hX hM f19 hD hw ?_))))))
  unfold aShows at hP
  cases e : (vFn (dK D) (dR D) (dow D) f && vFn (dK D) (dR D) (dow D) g) with
  | false =>
    refine And.intro (fun _ => ?_) (fun cz => by first | exact absurd cz (by decide) | exact absurd (by decide) cz)
    have hP := hP h fs (MH.rf hM hS)
    rw [if_neg (fun z => absurd (e.symm.trans z.1) (by decide))] at hP
    exact And.intro rfl (hP)
  | true =>
    refine And.intro (fun cz => by first | exact absurd cz (by decide) | exact absurd (by decide) cz) (fun _ => ?_)
    refine Exists.intro _ (And.intro hM.1 (Exists.intro _ (And.intro (hM.2.2 7 (by decide)) ?_)))
    refine Exists.intro _ (And.intro hM.1 (Exists.intro _ (And.intro f19 ?_)))
    refine Exists.intro _ (Exists.intro _ (And.intro eI (And.intro (vp_in_nI hd (by decide)) ?_)))
    rw [nI_clamp (by omega), pI]
    refine Exists.intro _ (And.intro hM.1 (Exists.intro 0 (Exists.intro 0 (And.intro (Nat.le_refl _) (And.intro (Nat.le_refl _) (c_all hX (by omega) ?_))))))
    refine Exists.intro 0 (Exists.intro 0 (And.intro (Nat.le_refl _) (And.intro (Nat.le_refl _) (c_in hX ?_))))
    have hin : ∀ (x : Int32) (n : Nat), n < 31 → ((0 ≤ x ∧ x ≤ nI (2 ^ n - 1)) ↔ inB x n = true) := fun x n hn => by
      have hp : 2 ^ n < 2 ^ 31 := Nat.pow_lt_pow_right (by decide) hn
      have hp0 : 0 < 2 ^ n := Nat.two_pow_pos n
      rw [inB_c hn]
      constructor
      · rintro ⟨z1, z2⟩
        obtain ⟨j, hj, rfl⟩ := nI_of (Int32.not_lt.mpr z1)
        exact ⟨j, by have := (nI_leI hj (by omega)).mp z2; omega, rfl⟩
      · rintro ⟨j, hj, rfl⟩
        exact ⟨nI_pos' (by omega), nI_le (by omega) (by omega)⟩
    cases c1 : inB on (dI D) with
    | false =>
      rw [if_neg (fun z => by rw [(hin on _ (by omega)).mp z] at c1; cases c1)]
      refine And.intro (fun _ => ?_) (fun cz => by first | exact absurd cz (by decide) | exact absurd (by decide) cz)
      have hP := hP h fs (MH.rf hM hS)
      rw [c1, Bool.false_and, if_neg (fun z => absurd z.2 (by decide))] at hP
      exact And.intro rfl (hP)
    | true =>
      rw [if_pos ((hin on _ (by omega)).mpr c1)]
      refine And.intro (fun cz => by first | exact absurd cz (by decide) | exact absurd (by decide) cz) (fun _ => ?_)
      refine Exists.intro _ (And.intro hM.1 (Exists.intro _ (And.intro (hM.2.2 10 (by decide)) ?_)))
      refine Exists.intro _ (And.intro hM.1 (Exists.intro _ (And.intro f19 ?_)))
      refine Exists.intro _ (Exists.intro _ (And.intro e10 (And.intro (vp_in_nI hd (by decide)) ?_)))
      rw [nI_clamp (by omega), pR]
      refine Exists.intro _ (And.intro hM.1 (Exists.intro 0 (Exists.intro 0 (And.intro (Nat.le_refl _) (And.intro (Nat.le_refl _) (c_all hX (by omega) ?_))))))
      refine Exists.intro 0 (Exists.intro 0 (And.intro (Nat.le_refl _) (And.intro (Nat.le_refl _) (c_in hX ?_))))
      cases c2 : inB up (dR D) with
      | false =>
        rw [if_neg (fun z => by rw [(hin up _ (by omega)).mp z] at c2; cases c2)]
        refine And.intro (fun cz => by first | exact absurd cz (by decide) | exact absurd (by decide) cz) (fun _ => ?_)
        have hP := hP h fs (MH.rf hM hS)
        rw [c2, Bool.and_false, if_neg (fun z => absurd z.2 (by decide))] at hP
        exact And.intro rfl (hP)
      | true =>
        rw [if_pos ((hin up _ (by omega)).mpr c2)]
        refine And.intro (fun _ => ?_) (fun cz => by first | exact absurd cz (by decide) | exact absurd (by decide) cz)
        rw [if_pos ⟨e, by rw [c1, c2]; rfl⟩] at hP
        obtain ⟨jo, ho, rfl⟩ := (inB_c (by omega)).mp c1
        obtain ⟨ju, hu, rfl⟩ := (inB_c (by omega)).mp c2
        rw [nI_clamp (by omega), nI_clamp (by omega)] at hP
        rw [Bool.and_eq_true] at e
        refine Exists.intro _ (And.intro hM.1 (Exists.intro 0 (Exists.intro 0 (And.intro (Nat.le_refl _) (And.intro (Nat.le_refl _) (m_builds1 (hh := 1) hX hM hS f19 hD hw (by decide) e.1 e.2 (fun h1 fs1 y1 y2 y3 y4 => ?_)))))))
        refine Exists.intro _ (And.intro y1.1.1 (Exists.intro 0 (Exists.intro 0 (And.intro (Nat.le_refl _) (And.intro (Nat.le_refl _) (m_lampsAt (hh := 1) hX y1.1 (by decide) y2 y3 ho hu ?_))))))
        exact And.intro rfl (hP h1 fs1 y1)
