/-! drawings that are the same but for circuits -/
def sameB (D E : DD) : Bool := (List.range 16).all (fun i => decide (itN D i = itN E i) && decide (itS D i = itS E i))
def sameP (D E : DD) : Prop := dI D = dI E ∧ dR D = dR E ∧ dL D = dL E ∧ (∀ k, k < dI D → dtr D k = dtr E k ∧ dnI D k = dnI E k) ∧ (∀ k, k < dR D → dsl D k = dsl E k ∧ dnR D k = dnR E k) ∧ ∀ k, k < dL D → dgr D k = dgr E k ∧ dnL D k = dnL E k
theorem it_r {D : DD} {r : Nat} (h : r < 6) : itN D r = (if r < dR D then dnR D r else 0) ∧ itS D r = (if r < dR D then dsl D r else 0) := by
  unfold itN itS
  rw [if_pos h, if_pos h]
  exact ⟨rfl, rfl⟩
theorem it_l {D : DD} {k : Nat} (h : k < 5) : itN D (6 + k) = (if k < dL D then dnL D k else 0) ∧ itS D (6 + k) = (if k < dL D then (if dgr D k = true then 9 else 8) else 0) := by
  unfold itN itS
  have h1 : ¬ 6 + k < 6 := by omega
  have h2 : 6 + k < 11 := by omega
  rw [if_neg h1, if_neg h1, if_pos h2, if_pos h2, Nat.add_sub_cancel_left]
  exact ⟨rfl, rfl⟩
theorem it_i {D : DD} {k : Nat} (h : k < 5) : itN D (11 + k) = (if k < dI D then dnI D k else 0) ∧ itS D (11 + k) = (if k < dI D then (if dtr D k = true then 5 else 4) else 0) := by
  unfold itN itS
  have h1 : ¬ 11 + k < 6 := by omega
  have h2 : ¬ 11 + k < 11 := by omega
  rw [if_neg h1, if_neg h1, if_neg h2, if_neg h2, Nat.add_sub_cancel_left]
  exact ⟨rfl, rfl⟩
theorem sameB_c {D E : DD} (hD : WD D) (hE : WD E) : sameB D E = true ↔ sameP D E := by
  have hr := hD.r
  have hr2 := hE.r
  have hi := hD.i
  have hi2 := hE.i
  have hl := hD.l
  have hl2 := hE.l
  unfold sameB
  rw [List.all_eq_true]
  constructor
  · intro h
    have it : ∀ i, i < 16 → itN D i = itN E i ∧ itS D i = itS E i := fun i h16 => by
      have := h i (List.mem_range.mpr h16)
      rw [Bool.and_eq_true, decide_eq_true_eq, decide_eq_true_eq] at this
      exact this
    have eR : dR D = dR E := by
      rcases Nat.lt_trichotomy (dR D) (dR E) with z | z | z
      · have := (it (dR D) (by omega)).1
        rw [(it_r (D := D) (by omega)).1, (it_r (D := E) (by omega)).1, if_neg (Nat.lt_irrefl _), if_pos z] at this
        exact absurd this.symm (hE.m.2.1 _ z)
      · exact z
      · have := (it (dR E) (by omega)).1
        rw [(it_r (D := D) (by omega)).1, (it_r (D := E) (by omega)).1, if_neg (Nat.lt_irrefl _), if_pos z] at this
        exact absurd this (hD.m.2.1 _ z)
    have eL : dL D = dL E := by
      rcases Nat.lt_trichotomy (dL D) (dL E) with z | z | z
      · have := (it (6 + dL D) (by omega)).1
        rw [(it_l (D := D) (by omega)).1, (it_l (D := E) (by omega)).1, if_neg (Nat.lt_irrefl _), if_pos z] at this
        exact absurd this.symm (hE.m.2.2 _ z)
      · exact z
      · have := (it (6 + dL E) (by omega)).1
        rw [(it_l (D := D) (by omega)).1, (it_l (D := E) (by omega)).1, if_neg (Nat.lt_irrefl _), if_pos z] at this
        exact absurd this (hD.m.2.2 _ z)
    have eI : dI D = dI E := by
      rcases Nat.lt_trichotomy (dI D) (dI E) with z | z | z
      · have := (it (11 + dI D) (by omega)).1
        rw [(it_i (D := D) (by omega)).1, (it_i (D := E) (by omega)).1, if_neg (Nat.lt_irrefl _), if_pos z] at this
        exact absurd this.symm (hE.m.1 _ z)
      · exact z
      · have := (it (11 + dI E) (by omega)).1
        rw [(it_i (D := D) (by omega)).1, (it_i (D := E) (by omega)).1, if_neg (Nat.lt_irrefl _), if_pos z] at this
        exact absurd this (hD.m.1 _ z)
    refine ⟨eI, eR, eL, fun k hk => ?_, fun k hk => ?_, fun k hk => ?_⟩
    · have := it (11 + k) (by omega)
      rw [(it_i (D := D) (by omega)).1, (it_i (D := E) (by omega)).1, (it_i (D := D) (by omega)).2, (it_i (D := E) (by omega)).2, if_pos hk, if_pos hk, if_pos (show k < dI E by omega), if_pos (show k < dI E by omega)] at this
      refine ⟨?_, this.1⟩
      have h2 := this.2
      cases h3 : dtr D k <;> cases h4 : dtr E k <;> rw [h3, h4] at h2 <;> first | rfl | exact absurd h2 (by decide)
    · have := it k (by omega)
      rw [(it_r (D := D) (by omega)).1, (it_r (D := E) (by omega)).1, (it_r (D := D) (by omega)).2, (it_r (D := E) (by omega)).2, if_pos hk, if_pos hk, if_pos (show k < dR E by omega), if_pos (show k < dR E by omega)] at this
      exact ⟨this.2, this.1⟩
    · have := it (6 + k) (by omega)
      rw [(it_l (D := D) (by omega)).1, (it_l (D := E) (by omega)).1, (it_l (D := D) (by omega)).2, (it_l (D := E) (by omega)).2, if_pos hk, if_pos hk, if_pos (show k < dL E by omega), if_pos (show k < dL E by omega)] at this
      refine ⟨?_, this.1⟩
      have h2 := this.2
      cases h3 : dgr D k <;> cases h4 : dgr E k <;> rw [h3, h4] at h2 <;> first | rfl | exact absurd h2 (by decide)
  · rintro ⟨eI, eR, eL, p1, p2, p3⟩ i hi16
    rw [Bool.and_eq_true, decide_eq_true_eq, decide_eq_true_eq]
    have h16 := List.mem_range.mp hi16
    by_cases c1 : i < 6
    · rw [(it_r c1).1, (it_r c1).1, (it_r c1).2, (it_r c1).2, ← eR]
      by_cases c2 : i < dR D
      · rw [if_pos c2, if_pos c2, if_pos c2, if_pos c2]; exact ⟨(p2 i c2).2, (p2 i c2).1⟩
      · rw [if_neg c2, if_neg c2, if_neg c2, if_neg c2]; exact ⟨rfl, rfl⟩
    · by_cases c3 : i < 11
      · obtain ⟨k, rfl⟩ : ∃ k, i = 6 + k := ⟨i - 6, by omega⟩
        have hk : k < 5 := by omega
        rw [(it_l hk).1, (it_l hk).1, (it_l hk).2, (it_l hk).2, ← eL]
        by_cases c2 : k < dL D
        · rw [if_pos c2, if_pos c2, if_pos c2, if_pos c2, (p3 k c2).1]; exact ⟨(p3 k c2).2, rfl⟩
        · rw [if_neg c2, if_neg c2, if_neg c2, if_neg c2]; exact ⟨rfl, rfl⟩
      · obtain ⟨k, rfl⟩ : ∃ k, i = 11 + k := ⟨i - 11, by omega⟩
        have hk : k < 5 := by omega
        rw [(it_i hk).1, (it_i hk).1, (it_i hk).2, (it_i hk).2, ← eI]
        by_cases c2 : k < dI D
        · rw [if_pos c2, if_pos c2, if_pos c2, if_pos c2, (p1 k c2).1]; exact ⟨(p1 k c2).2, rfl⟩
        · rw [if_neg c2, if_neg c2, if_neg c2, if_neg c2]; exact ⟨rfl, rfl⟩
/-- the circuits that are not alike -/
def unlk (D E : DD) : Nat := bsum (fun c => cirB (dR D) (dL D) c && !decide (dsg D c = dsg E c)) 11
def aUnlk (D E : DD) : Int32 := if sameB D E = true then nI (unlk D E) else -2
theorem find_congr {p q : Nat → Bool} : ∀ l : List Nat, (∀ x ∈ l, p x = q x) → l.find? p = l.find? q
  | [], _ => rfl
  | a :: l, h => by
    rw [List.find?_cons, List.find?_cons, h a List.mem_cons_self, find_congr l (fun x hx => h x (List.mem_cons_of_mem _ hx))]
theorem nmF_same {D E : DD} (hs : sameP D E) (s : Int64) : nmF D s = nmF E s := by
  obtain ⟨eI, eR, eL, p1, p2, p3⟩ := hs
  unfold nmF
  rw [← eR, ← eI, find_congr (q := fun r => decide (dnR E r = s)) _ (fun x hx => by rw [(p2 x (List.mem_range.mp hx)).2]), find_congr (p := fun i => decide (dnI D i = s)) (q := fun i => decide (dnI E i = s)) _ (fun x hx => by rw [(p1 x (List.mem_range.mp hx)).2])]
theorem cdF_same {D E : DD} (hs : sameP D E) (s : Int64) : cdF D s = cdF E s := by
  unfold cdF
  rw [nmF_same hs]
def okS (D : DD) (s : Int64) : Prop := (s = -6 ∨ s = -7 ∨ s = -8 ∨ s = -9 ∨ s = -10) ∨ (0 < s ∧ ((∃ r, r < dR D ∧ dnR D r = s) ∨ ∃ i, i < dI D ∧ dnI D i = s))
theorem nmF_c {D : DD} {s : Int64} (h : (∃ r, r < dR D ∧ dnR D r = s) ∨ ∃ i, i < dI D ∧ dnI D i = s) : (∃ r, r < dR D ∧ nmF D s = r ∧ dnR D r = s) ∨ ∃ i, i < dI D ∧ nmF D s = 6 + i ∧ dnI D i = s := by
  unfold nmF
  cases h1 : (List.range (dR D)).find? (fun r => decide (dnR D r = s)) with
  | some r =>
    have a := List.find?_some h1
    have b := List.mem_range.mp (List.mem_of_find?_eq_some h1)
    exact Or.inl ⟨r, b, rfl, of_decide_eq_true a⟩
  | none =>
    rw [List.find?_eq_none] at h1
    cases h2 : (List.range (dI D)).find? (fun i => decide (dnI D i = s)) with
    | some i =>
      have a := List.find?_some h2
      have b := List.mem_range.mp (List.mem_of_find?_eq_some h2)
      exact Or.inr ⟨i, b, rfl, of_decide_eq_true a⟩
    | none =>
      rw [List.find?_eq_none] at h2
      rcases h with ⟨r, hr, e⟩ | ⟨i, hi, e⟩
      · exact absurd (decide_eq_true e) (h1 r (List.mem_range.mpr hr))
      · exact absurd (decide_eq_true e) (h2 i (List.mem_range.mpr hi))
theorem cdF_nm {D : DD} {s : Int64} (h : 0 < s) : cdF D s = nmF D s := by
  unfold cdF
  have ne : ∀ k : Int64, ¬ 0 < k → s ≠ k := fun k hk e => hk (e ▸ h)
  rw [if_neg (ne _ (by decide)), if_neg (ne _ (by decide)), if_neg (ne _ (by decide)), if_neg (ne _ (by decide)), if_neg (ne _ (by decide))]
theorem cdF_inj {D : DD} (hD : WD D) {s t : Int64} (h1 : okS D s) (h2 : okS D t) (e : cdF D s = cdF D t) : s = t := by
  have hr := hD.r
  have hi := hD.i
  have big : ∀ {u : Int64}, 0 < u → ((∃ r, r < dR D ∧ dnR D r = u) ∨ ∃ i, i < dI D ∧ dnI D i = u) → cdF D u < 11 := fun {u} hu h => by
    rw [cdF_nm hu]
    rcases nmF_c h with ⟨r, a, b, _⟩ | ⟨i, a, b, _⟩ <;> omega
  have op : ∀ {u : Int64}, (u = -6 ∨ u = -7 ∨ u = -8 ∨ u = -9 ∨ u = -10) → 114 ≤ cdF D u := fun {u} h => by
    rcases h with rfl | rfl | rfl | rfl | rfl
    · exact (by decide : 114 ≤ 117)
    · exact (by decide : 114 ≤ 118)
    · exact (by decide : 114 ≤ 114)
    · exact (by decide : 114 ≤ 115)
    · exact (by decide : 114 ≤ 116)
  rcases h1 with h1 | ⟨h1, n1⟩
  · rcases h2 with h2 | ⟨h2, n2⟩
    · have v6 : cdF D (-6) = 117 := rfl
      have v7 : cdF D (-7) = 118 := rfl
      have v8 : cdF D (-8) = 114 := rfl
      have v9 : cdF D (-9) = 115 := rfl
      have v10 : cdF D (-10) = 116 := rfl
      rcases h1 with rfl | rfl | rfl | rfl | rfl <;> rcases h2 with rfl | rfl | rfl | rfl | rfl <;> first | rfl | omega
    · have := op h1
      have := big h2 n2
      omega
  · rcases h2 with h2 | ⟨h2, n2⟩
    · have := op h2
      have := big h1 n1
      omega
    · rw [cdF_nm h1, cdF_nm h2] at e
      rcases nmF_c n1 with ⟨r, a, b, c⟩ | ⟨i, a, b, c⟩ <;> rcases nmF_c n2 with ⟨r2, a2, b2, c2⟩ | ⟨i2, a2, b2, c2⟩
      · have : r = r2 := by omega
        rw [← c, ← c2, this]
      · omega
      · omega
      · have : i = i2 := by omega
        rw [← c, ← c2, this]
theorem okS_same {D E : DD} (hs : sameP D E) {s : Int64} (h : okS E s) : okS D s := by
  obtain ⟨eI, eR, eL, p1, p2, p3⟩ := hs
  rcases h with h | ⟨h, ⟨r, a, b⟩ | ⟨i, a, b⟩⟩
  · exact Or.inl h
  · exact Or.inr ⟨h, Or.inl ⟨r, by omega, by rw [(p2 r (by omega)).2]; exact b⟩⟩
  · exact Or.inr ⟨h, Or.inr ⟨i, by omega, by rw [(p1 i (by omega)).2]; exact b⟩⟩
theorem sg_ok {D : DD} (hw : WD D) {c i : Nat} (hc : c < 11) (hci : cirB (dR D) (dL D) c = true) (hi : i < (dsg D c).length) : okS D ((dsg D c).getD i 0) := by
  have e : (dsg D c).getD i 0 = (dsg D c)[i] := by rw [List.getD_eq_getElem?_getD, List.getElem?_eq_getElem hi]; rfl
  rw [e]
  exact hw.g c hc hci _ (List.getElem_mem hi)
theorem cdF_lt {D : DD} (hD : WD D) {s : Int64} (h : okS D s) : cdF D s < 119 := by
  have hr := hD.r
  have hi := hD.i
  rcases h with h | ⟨h, n⟩
  · rcases h with rfl | rfl | rfl | rfl | rfl
    · exact (by decide : 117 < 119)
    · exact (by decide : 118 < 119)
    · exact (by decide : 114 < 119)
    · exact (by decide : 115 < 119)
    · exact (by decide : 116 < 119)
  · rw [cdF_nm h]
    rcases nmF_c n with ⟨r, a, b, _⟩ | ⟨i, a, b, _⟩ <;> omega
theorem getD_ext {a b : List Int64} (hl : a.length = b.length) (h : ∀ i, i < a.length → a.getD i 0 = b.getD i 0) : a = b := by
  refine List.ext_getElem hl (fun i h1 h2 => ?_)
  have := h i h1
  rw [List.getD_eq_getElem?_getD, List.getElem?_eq_getElem h1, List.getD_eq_getElem?_getD, List.getElem?_eq_getElem h2] at this
  exact this
def alkB (D E : DD) (c : Nat) : Bool := !(cirB (dR D) (dL D) c && !decide (dsg D c = dsg E c))
set_option maxHeartbeats 8000000 in
theorem x_hasSameCircuit {l : Launch} {G : GG} {h : AH} {nx : Nat} {Post : Option Value → AH → Nat → Prop} {a b c : Nat} {D E : DD} (hX : XC G ∧ TX l G) (hD : XD h a D) (hE : XD h b E) (hw : WD D) (hv : WD E) (hs : sameP D E) (hc : c < 11) (hP : Post (some (.int (nI (alkB D E c).toNat))) h nx) : Runs l G i_X0_hasSameCircuit 0 0 [.ref a, .ref b, .int (nI c)] h nx Post := by
  obtain ⟨cc, g2, g3, g4, g5, g10, g13, g14, g16, g17, g18, g19, g27, g28, g1, g11, g12, d0, d6, d1, d2, d3, d4, d5, _, _, _, _, _, _, _, _, _, _, _, _, _, _, _, _, _, _, _, p9⟩ := id hD
  obtain ⟨ec, k2, k3, k4, k5, k10, k13, k14, k16, k17, k18, k19, k27, k28, k1, k11, k12, e0, e6, e1, e2, e3, e4, e5, _, _, _, _, _, _, _, _, _, _, _, _, _, _, _, _, _, _, _, q9⟩ := id hE
  obtain ⟨x, x1, x2, x3, x4⟩ := p9 c hc
  obtain ⟨y, y1, y2, y3, y4⟩ := q9 c hc
  have eR := hs.2.1
  have eL := hs.2.2.1
  rw [← eR, ← eL] at y2 y3 y4
  generalize hn : (if cirB (dR D) (dL D) c = true then (dsg D c).length else 0) = n at x2 x3 x4
  generalize hm : (if cirB (dR D) (dL D) c = true then (dsg E c).length else 0) = m at y2 y3 y4
  have sx : nI (x + n) - nI x = nI n := by rw [nI_sub (by omega), Nat.add_sub_cancel_left]
  have sy : nI (y + m) - nI y = nI m := by rw [nI_sub (by omega), Nat.add_sub_cancel_left]
  have loop : n = m → ∀ (j i : Nat), i + j = n → (cirB (dR D) (dL D) c = true → ∀ k, k < i → (dsg D c).getD k 0 = (dsg E c).getD k 0) → Go l G 0 s_X0_hasSameCircuit 0 0 Post 36 [(4, .int (nI i)), (3, .int (nI n)), (0, .ref a), (1, .ref b), (2, .int (nI c))] [] h nx 0 0 := by
    intro hnm j
    induction j with
    | zero =>
      intro i hi hall
      have e : i = n := by omega
      subst e
      refine Go.of hX.2 ck_X0_hasSameCircuit [36] 20 ?_
      refine And.intro (fun _ => ?_) (fun cz => absurd (nI_le (Nat.le_refl _) (by omega)) cz)
      have ev : alkB D E c = true := by
        unfold alkB
        cases cb : cirB (dR D) (dL D) c with
        | false => rfl
        | true =>
          rw [if_pos cb] at hn hm
          rw [decide_eq_true (getD_ext (by omega) (fun k hk => hall cb k (by omega)))]
          rfl
      rw [ev] at hP
      exact And.intro rfl (hP)
    | succ j ih =>
      intro i hi hall
      have hin : i < n := by omega
      have cb : cirB (dR D) (dL D) c = true := by
        cases z : cirB (dR D) (dL D) c with
        | true => rfl
        | false => rw [z, if_neg (by decide)] at hn; omega
      rw [if_pos cb] at hn hm
      have v1 := x4 cb i (by omega)
      have v2 := y4 cb i (by omega)
      have s1 := sg_ok hw hc cb (i := i) (by omega)
      have s2 := sg_ok hv hc (by rw [← eR, ← eL]; exact cb) (i := i) (by omega)
      have ex : nI x + nI i = nI (x + i) := nI_add _ _
      have ey : nI y + nI i = nI (y + i) := nI_add _ _
      refine Go.of hX.2 ck_X0_hasSameCircuit [36] 80 ?_
      refine And.intro (fun cz => absurd cz (nI_ge hin (by omega))) (fun _ => ?_)
      refine Exists.intro _ (And.intro d0 (Exists.intro _ (And.intro rfl ?_)))
      refine Exists.intro _ (Exists.intro _ (And.intro d4 (And.intro (vp_in_nI hc (by decide)) ?_)))
      rw [nI_clamp (show c < 2 ^ 31 by omega), x1]
      refine Exists.intro _ (And.intro e0 (Exists.intro _ (And.intro rfl ?_)))
      refine Exists.intro _ (Exists.intro _ (And.intro e4 (And.intro (vp_in_nI hc (by decide)) ?_)))
      rw [nI_clamp (show c < 2 ^ 31 by omega), y1]
      refine And.intro (fun cz => absurd cz (show ¬ (400 : Int32) ≤ nI x + nI i from by rw [ex]; exact nI_ge (b := 400) (by omega) (by decide))) (fun _ => ?_)
      refine And.intro (fun cz => absurd cz (show ¬ (400 : Int32) ≤ nI y + nI i from by rw [ey]; exact nI_ge (b := 400) (by omega) (by decide))) (fun _ => ?_)
      refine Exists.intro _ (And.intro d0 (Exists.intro _ (And.intro rfl ?_)))
      refine Exists.intro _ (Exists.intro _ (And.intro d3 (And.intro (by rw [ex]; exact vp_in_nI (by omega) (by decide)) ?_)))
      refine Exists.intro _ (And.intro e0 (Exists.intro _ (And.intro rfl ?_)))
      refine Exists.intro _ (Exists.intro _ (And.intro e3 (And.intro (by rw [ey]; exact vp_in_nI (by omega) (by decide)) ?_)))
      have w1 : g3 (nI x + nI i).toNatClampNeg = nI (cdF D ((dsg D c).getD i 0)) := by rw [ex, nI_clamp (by omega)]; exact v1
      have w2 : k3 (nI y + nI i).toNatClampNeg = nI (cdF D ((dsg E c).getD i 0)) := by rw [ey, nI_clamp (by omega), cdF_same hs]; exact v2
      have l1 := cdF_lt hw s1
      have l2 := cdF_lt hw (okS_same hs s2)
      by_cases ce : (dsg D c).getD i 0 = (dsg E c).getD i 0
      · refine And.intro (fun _ => ?_) (fun cz => absurd (show g3 (nI x + nI i).toNatClampNeg = k3 (nI y + nI i).toNatClampNeg from by rw [w1, w2, ce]) cz)
        refine go_loc (lv' := [(4, .int (nI i + 1)), (3, .int (nI n)), (0, .ref a), (1, .ref b), (2, .int (nI c))]) ⟨rfl, rfl, rfl, rfl, rfl, trivial⟩ ?_
        rw [← nI_succ]
        exact ih (i + 1) (by omega) (fun _ k hk => by
          by_cases e : k = i
          · rw [e]; exact ce
          · exact hall cb k (by omega))
      · refine And.intro (fun cz => absurd cz (fun z => ce (cdF_inj hw s1 (okS_same hs s2) ((nI_eq (by omega) (by omega)).mp (by rw [← w1, ← w2]; exact z))))) (fun _ => ?_)
        have ev : alkB D E c = false := by
          unfold alkB
          rw [cb, decide_eq_false (fun z => ce (by rw [z]))]
          rfl
        rw [ev] at hP
        exact And.intro rfl (hP)
  refine en_X0_hasSameCircuit hX [36] 60 rfl ?_
  refine Exists.intro _ (And.intro d0 (Exists.intro _ (And.intro rfl ?_)))
  refine Exists.intro _ (Exists.intro _ (And.intro d5 (And.intro (vp_in_nI hc (by decide)) ?_)))
  rw [nI_clamp (show c < 2 ^ 31 by omega), x2]
  refine Exists.intro _ (And.intro d0 (Exists.intro _ (And.intro rfl ?_)))
  refine Exists.intro _ (Exists.intro _ (And.intro d4 (And.intro (vp_in_nI hc (by decide)) ?_)))
  rw [nI_clamp (show c < 2 ^ 31 by omega), x1]
  refine Exists.intro _ (And.intro e0 (Exists.intro _ (And.intro rfl ?_)))
  refine Exists.intro _ (Exists.intro _ (And.intro e5 (And.intro (vp_in_nI hc (by decide)) ?_)))
  rw [nI_clamp (show c < 2 ^ 31 by omega), y2]
  refine Exists.intro _ (And.intro e0 (Exists.intro _ (And.intro rfl ?_)))
  refine Exists.intro _ (Exists.intro _ (And.intro e4 (And.intro (vp_in_nI hc (by decide)) ?_)))
  rw [nI_clamp (show c < 2 ^ 31 by omega), y1]
  by_cases cn : n = m
  · refine And.intro (fun _ => ?_) (fun cz => absurd (show nI (x + n) - nI x = nI (y + m) - nI y from by rw [sx, sy, cn]) cz)
    refine go_loc (lv' := [(4, .int (nI 0)), (3, .int (nI (x + n) - nI x)), (0, .ref a), (1, .ref b), (2, .int (nI c))]) ⟨rfl, rfl, rfl, rfl, rfl, trivial⟩ ?_
    rw [sx]
    exact loop cn n 0 (Nat.zero_add _) (fun _ k hk => absurd hk (Nat.not_lt_zero k))
  · refine And.intro (fun cz => absurd cz (fun z => cn ((nI_eq (by omega) (by omega)).mp (by rw [← sx, ← sy]; exact z)))) (fun _ => ?_)
    have ev : alkB D E c = false := by
      unfold alkB
      cases cb : cirB (dR D) (dL D) c with
      | false =>
        rw [cb, if_neg (by decide)] at hn hm
        omega
      | true =>
        rw [if_pos cb] at hn hm
        rw [decide_eq_false (fun z => cn (by rw [← hn, ← hm, z]))]
        rfl
    rw [ev] at hP
    exact And.intro rfl (hP)
