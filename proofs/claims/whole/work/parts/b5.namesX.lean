/-! x looks at the names of a text -/
theorem drop_c {L : List Nat} {t c : Nat} {r : List Nat} (h : L.drop t = c :: r) : t < L.length ∧ L.getD t 0 = c ∧ L.drop (t + 1) = r := by
  have hl : t < L.length := by
    rcases Nat.lt_or_ge t L.length with z | z
    · exact z
    · rw [List.drop_eq_nil_of_le z] at h; cases h
  rw [List.drop_eq_getElem_cons hl] at h
  injection h with h1 h2
  refine ⟨hl, ?_, h2⟩
  rw [List.getD_eq_getElem?_getD, List.getElem?_eq_getElem hl]
  exact h1
theorem drop_0 {L : List Nat} {t : Nat} (h : L.drop t = []) : L.length ≤ t := by
  have := congrArg List.length h
  rw [List.length_drop] at this
  have e : ([] : List Nat).length = 0 := rfl
  omega
theorem rwB.pre {h : AH} {r : Nat} {kd : Nat → Nat} {vl : Nat → Int64} {L M : List Nat} (H : rwB h r kd vl (L ++ M)) : rwB h r kd vl L := by
  obtain ⟨g10, g11, g9, e9, e10, e11, p⟩ := H
  refine ⟨g10, g11, g9, e9, e10, e11, fun m hm => ?_⟩
  have := p m (by rw [List.length_append]; omega)
  have e : (L ++ M).getD m 0 = L.getD m 0 := by rw [List.getD_eq_getElem?_getD, List.getD_eq_getElem?_getD, List.getElem?_append_left hm]
  rw [e] at this
  exact this
theorem toL_pre (kd : Nat → Nat) {i N : Nat} (h : i ≤ N) : ∃ M, toL kd N = toL kd i ++ M := by
  obtain ⟨k, rfl⟩ := Nat.exists_eq_add_of_le h
  induction k with
  | zero => exact ⟨[], (List.append_nil _).symm⟩
  | succ k ih =>
    obtain ⟨M, e⟩ := ih (by omega)
    rw [show i + (k + 1) = (i + k) + 1 from rfl, toL_s]
    split
    · exact ⟨M ++ [i + k], by rw [e, List.append_assoc]⟩
    · exact ⟨M, e⟩
def zGp (kd : Nat → Nat) (vl : Nat → Int64) (nm : Int64) (t : Nat) : Bool := decide (vl t = nm) && decide (zT (zz kd t) = 9)
def zG (kd : Nat → Nat) (vl : Nat → Int64) (L : List Nat) (nm : Int64) : Option Nat := (L.find? (zGp kd vl nm)).map (fun t => zNo (zz kd t))
def zVp (kd : Nat → Nat) (vl : Nat → Int64) (nm : Int64) (t : Nat) : Bool := decide (vl t = nm) && (decide (zT (zz kd t) = 6) || (decide (zT (zz kd t) = 4) || decide (zT (zz kd t) = 5)))
def zVf (kd : Nat → Nat) (t : Nat) : Nat := if zT (zz kd t) = 6 then zNo (zz kd t) else 6 + zNo (zz kd t)
def zVr (kd : Nat → Nat) (vl : Nat → Int64) (L : List Nat) (nm : Int64) : Option Nat := (L.find? (zVp kd vl nm)).map (zVf kd)
set_option maxHeartbeats 8000000 in
theorem x_isTold {l : Launch} {G : GG} {h : AH} {nx : Nat} {Post : Option Value → AH → Nat → Prop} {r i n : Nat} {nm : Int64} {pl : Int32} {z : ZT} {kd : Nat → Nat} {vl : Nat → Int64} {L : List Nat} (hX : XC G ∧ TX l G) (hr : h r = some (.inr (6, rdO r i pl z))) (hB : rwB h r kd vl L) (hn : n = L.length) (h16 : L.length ≤ 16) (hP : Post (some (.int (nI (L.any (fun t => decide (vl t = nm))).toNat))) h nx) : Runs l G i_X6_isTold 0 0 [.ref r, .long nm, .int (nI n)] h nx Post := by
  obtain ⟨g10, g11, g9, e9, e10, e11, q⟩ := hB
  have loop : ∀ (bs : List Nat) (t : Nat), L.drop t = bs → t + bs.length = L.length → L.any (fun t => decide (vl t = nm)) = bs.any (fun t => decide (vl t = nm)) → Go l G 6 s_X6_isTold 0 0 Post 3 [(4, .int (nI t)), (0, .ref r), (1, .long nm), (3, .int (nI n))] [] h nx 0 0 := by
    intro bs
    induction bs with
    | nil =>
      intro t h1 h2 h3
      have e : t = n := by rw [hn, ← h2]; rfl
      rw [h3] at hP
      refine Go.of hX.2 ck_X6_isTold [] 20 ?_
      refine And.intro (fun _ => ?_) (fun cz => absurd (nI_le (a := n) (b := t) (by omega) (by omega)) cz)
      exact And.intro rfl (hP)
    | cons c bs ih =>
      intro t h1 h2 h3
      obtain ⟨a1, a2, a3⟩ := drop_c h1
      have hq := q t a1
      rw [a2] at hq
      refine Go.of hX.2 ck_X6_isTold [3] 40 ?_
      refine And.intro (fun cz => absurd cz (nI_ge (a := t) (b := n) (by omega) (by omega))) (fun _ => ?_)
      refine And.intro (fun cz => absurd cz (nI_ge (a := t) (b := 16) (by omega) (by decide))) (fun _ => ?_)
      refine Exists.intro _ (And.intro hr (Exists.intro _ (And.intro rfl ?_)))
      refine Exists.intro _ (Exists.intro _ (And.intro e9 (And.intro (vp_in_nI (show t < 16 by omega) (by decide)) ?_)))
      rw [nI_clamp (show t < 2 ^ 31 by omega), hq.1]
      by_cases c1 : vl c = nm
      · rw [h3, List.any_cons, decide_eq_true c1, Bool.true_or] at hP
        refine And.intro (fun cz => absurd (cmp_eq.mpr c1) cz) (fun _ => ?_)
        exact And.intro rfl (hP)
      · rw [List.any_cons, decide_eq_false c1, Bool.false_or] at h3
        refine And.intro (fun _ => ?_) (fun cz => absurd cz (fun z => c1 (cmp_eq.mp z)))
        refine go_loc (lv' := [(4, .int (nI t + 1)), (0, .ref r), (1, .long nm), (3, .int (nI n))]) ⟨rfl, rfl, rfl, rfl, trivial⟩ ?_
        rw [← nI_succ]
        exact ih (t + 1) a3 (by rw [List.length_cons] at h2; omega) h3
  refine en_X6_isTold hX [3] 20 rfl ?_
  exact go_loc (lv' := [(4, .int (nI 0)), (0, .ref r), (1, .long nm), (3, .int (nI n))]) ⟨rfl, rfl, rfl, rfl, trivial⟩ (loop L 0 rfl (Nat.zero_add _) rfl)
set_option maxHeartbeats 8000000 in
theorem x_greenOf {l : Launch} {G : GG} {h : AH} {nx : Nat} {Post : Option Value → AH → Nat → Prop} {r i n : Nat} {nm : Int64} {pl : Int32} {z : ZT} {kd : Nat → Nat} {vl : Nat → Int64} {L : List Nat} (hX : XC G ∧ TX l G) (hr : h r = some (.inr (6, rdO r i pl z))) (hB : rwB h r kd vl L) (hn : n = L.length) (h16 : L.length ≤ 16) (hT : ∀ t ∈ L, zT (zz kd t) < 19) (hP : Post (some (.int (zBI (zG kd vl L nm)))) h nx) : Runs l G i_X6_greenOf 0 0 [.ref r, .long nm, .int (nI n)] h nx Post := by
  obtain ⟨g10, g11, g9, e9, e10, e11, q⟩ := hB
  have loop : ∀ (bs : List Nat) (t : Nat), L.drop t = bs → t + bs.length = L.length → zG kd vl L nm = zG kd vl bs nm → Go l G 6 s_X6_greenOf 0 0 Post 3 [(4, .int (nI t)), (0, .ref r), (1, .long nm), (3, .int (nI n))] [] h nx 0 0 := by
    intro bs
    induction bs with
    | nil =>
      intro t h1 h2 h3
      have e : t = n := by rw [hn, ← h2]; rfl
      rw [h3] at hP
      refine Go.of hX.2 ck_X6_greenOf [] 20 ?_
      refine And.intro (fun _ => ?_) (fun cz => absurd (nI_le (a := n) (b := t) (by omega) (by omega)) cz)
      exact And.intro rfl (hP)
    | cons c bs ih =>
      intro t h1 h2 h3
      obtain ⟨a1, a2, a3⟩ := drop_c h1
      have hq := q t a1
      rw [a2] at hq
      have hc : zT (zz kd c) < 19 := hT c (List.mem_of_mem_drop (i := t) (by rw [h1]; exact List.mem_cons_self))
      have skip : zGp kd vl nm c = false → Go l G 6 s_X6_greenOf 0 0 Post 48 [(4, .int (nI t)), (0, .ref r), (1, .long nm), (3, .int (nI n))] [] h nx 0 0 := by
        intro hp
        have := ih (t + 1) a3 (by rw [List.length_cons] at h2; omega) (h3.trans (by unfold zG; rw [List.find?_cons, hp]))
        rw [nI_succ] at this
        refine Go.of hX.2 ck_X6_greenOf [3] 5 ?_
        exact go_loc (lv' := [(4, .int (nI t + 1)), (0, .ref r), (1, .long nm), (3, .int (nI n))]) ⟨rfl, rfl, rfl, rfl, trivial⟩ (this)
      refine Go.of hX.2 ck_X6_greenOf [48] 40 ?_
      refine And.intro (fun cz => absurd cz (nI_ge (a := t) (b := n) (by omega) (by omega))) (fun _ => ?_)
      refine And.intro (fun cz => absurd cz (nI_ge (a := t) (b := 16) (by omega) (by decide))) (fun _ => ?_)
      refine Exists.intro _ (And.intro hr (Exists.intro _ (And.intro rfl ?_)))
      refine Exists.intro _ (Exists.intro _ (And.intro e9 (And.intro (vp_in_nI (show t < 16 by omega) (by decide)) ?_)))
      rw [nI_clamp (show t < 2 ^ 31 by omega), hq.1]
      by_cases c1 : vl c = nm
      · refine And.intro (fun cz => absurd (cmp_eq.mpr c1) cz) (fun _ => ?_)
        refine Exists.intro _ (And.intro hr (Exists.intro _ (And.intro rfl ?_)))
        refine Exists.intro _ (Exists.intro _ (And.intro e10 (And.intro (vp_in_nI (show t < 16 by omega) (by decide)) ?_)))
        rw [nI_clamp (show t < 2 ^ 31 by omega), hq.2.1]
        by_cases c2 : zT (zz kd c) = 9
        · have e : zG kd vl (c :: bs) nm = some (zNo (zz kd c)) := by
            unfold zG
            rw [List.find?_cons, show zGp kd vl nm c = true from by unfold zGp; rw [decide_eq_true c1, decide_eq_true c2]; rfl]
            rfl
          rw [h3, e] at hP
          refine And.intro (fun cz => absurd (show nI (zT (zz kd c)) = nI 9 from by rw [c2]) cz) (fun _ => ?_)
          refine Exists.intro _ (And.intro hr (Exists.intro _ (And.intro rfl ?_)))
          refine Exists.intro _ (Exists.intro _ (And.intro e11 (And.intro (vp_in_nI (show t < 16 by omega) (by decide)) ?_)))
          rw [nI_clamp (show t < 2 ^ 31 by omega), hq.2.2]
          exact And.intro rfl (hP)
        · refine And.intro (fun _ => ?_) (fun cz => absurd cz (fun z => c2 ((nI_eq (by omega) (by decide)).mp (show nI (zT (zz kd c)) = nI 9 from z))))
          exact go_loc (lv' := [(4, .int (nI t)), (0, .ref r), (1, .long nm), (3, .int (nI n))]) ⟨rfl, rfl, rfl, rfl, trivial⟩ (skip (by unfold zGp; rw [decide_eq_false c2, Bool.and_false]))
      · refine And.intro (fun _ => ?_) (fun cz => absurd cz (fun z => c1 (cmp_eq.mp z)))
        exact go_loc (lv' := [(4, .int (nI t)), (0, .ref r), (1, .long nm), (3, .int (nI n))]) ⟨rfl, rfl, rfl, rfl, trivial⟩ (skip (by unfold zGp; rw [decide_eq_false c1]; rfl))
  refine en_X6_greenOf hX [3] 20 rfl ?_
  exact go_loc (lv' := [(4, .int (nI 0)), (0, .ref r), (1, .long nm), (3, .int (nI n))]) ⟨rfl, rfl, rfl, rfl, trivial⟩ (loop L 0 rfl (Nat.zero_add _) rfl)
set_option maxHeartbeats 8000000 in
theorem x_variableOf {l : Launch} {G : GG} {h : AH} {nx : Nat} {Post : Option Value → AH → Nat → Prop} {r i : Nat} {nm : Int64} {pl : Int32} {z : ZT} {kd : Nat → Nat} {vl : Nat → Int64} {L : List Nat} (hX : XC G ∧ TX l G) (hr : h r = some (.inr (6, rdO r i pl z))) (hB : rwB h r kd vl L) (hn : L.length = zI z + zR z + zL z) (h16 : L.length ≤ 16) (hT : ∀ t ∈ L, zT (zz kd t) < 19) (hP : Post (some (.int (zBI (zVr kd vl L nm)))) h nx) : Runs l G i_X6_variableOf 0 0 [.ref r, .long nm] h nx Post := by
  obtain ⟨g10, g11, g9, e9, e10, e11, q⟩ := hB
  have loop : ∀ (bs : List Nat) (t : Nat), L.drop t = bs → t + bs.length = L.length → zVr kd vl L nm = zVr kd vl bs nm → Go l G 6 s_X6_variableOf 0 0 Post 2 [(3, .int (nI t)), (0, .ref r), (1, .long nm)] [] h nx 0 0 := by
    intro bs
    induction bs with
    | nil =>
      intro t h1 h2 h3
      have e : t = L.length := by rw [← h2]; rfl
      rw [h3] at hP
      refine Go.of hX.2 ck_X6_variableOf [] 20 ?_
      refine Exists.intro _ (And.intro hr (Exists.intro _ (And.intro rfl ?_)))
      refine And.intro (fun _ => ?_) (fun cz => absurd (nI_le (a := zI z + zR z + zL z) (b := t) (by omega) (by omega)) cz)
      exact And.intro rfl (hP)
    | cons c bs ih =>
      intro t h1 h2 h3
      obtain ⟨a1, a2, a3⟩ := drop_c h1
      have hq := q t a1
      rw [a2] at hq
      have hc : zT (zz kd c) < 19 := hT c (List.mem_of_mem_drop (i := t) (by rw [h1]; exact List.mem_cons_self))
      have tne : ∀ k, k < 100 → zT (zz kd c) ≠ k → ¬ nI (zT (zz kd c)) = nI k := fun k hk z e => z ((nI_eq (by omega) (by omega)).mp e)
      have skip : zVp kd vl nm c = false → Go l G 6 s_X6_variableOf 0 0 Post 86 [(3, .int (nI t)), (0, .ref r), (1, .long nm)] [] h nx 0 0 := by
        intro hp
        have := ih (t + 1) a3 (by rw [List.length_cons] at h2; omega) (h3.trans (by unfold zVr; rw [List.find?_cons, hp]))
        rw [nI_succ] at this
        refine Go.of hX.2 ck_X6_variableOf [2] 5 ?_
        exact go_loc (lv' := [(3, .int (nI t + 1)), (0, .ref r), (1, .long nm)]) ⟨rfl, rfl, rfl, trivial⟩ (this)
      have take : zVp kd vl nm c = true → zVr kd vl L nm = some (zVf kd c) := fun hp => by
        rw [h3]
        unfold zVr
        rw [List.find?_cons, hp]
        rfl
      have at45 : ¬ (vl c = nm ∧ zT (zz kd c) = 6) → Go l G 6 s_X6_variableOf 0 0 Post 45 [(3, .int (nI t)), (0, .ref r), (1, .long nm)] [] h nx 0 0 := by
        intro hno
        have at76 : vl c = nm → (zT (zz kd c) = 4 ∨ zT (zz kd c) = 5) → Go l G 6 s_X6_variableOf 0 0 Post 76 [(3, .int (nI t)), (0, .ref r), (1, .long nm)] [] h nx 0 0 := by
          intro hv h45
          have hp : zVp kd vl nm c = true := by
            unfold zVp
            rw [decide_eq_true hv]
            rcases h45 with e | e <;> rw [e] <;> rfl
          rw [take hp, show zVf kd c = 6 + zNo (zz kd c) from if_neg (by omega)] at hP
          have hP : Post (some (.int (nI (6 + zNo (zz kd c))))) h nx := hP
          rw [← nI_add] at hP
          refine Go.of hX.2 ck_X6_variableOf [] 20 ?_
          refine Exists.intro _ (And.intro hr (Exists.intro _ (And.intro rfl ?_)))
          refine Exists.intro _ (Exists.intro _ (And.intro e11 (And.intro (vp_in_nI (show t < 16 by omega) (by decide)) ?_)))
          rw [nI_clamp (show t < 2 ^ 31 by omega), hq.2.2]
          exact And.intro rfl (hP)
        refine Go.of hX.2 ck_X6_variableOf [76, 86] 40 ?_
        refine Exists.intro _ (And.intro hr (Exists.intro _ (And.intro rfl ?_)))
        refine Exists.intro _ (Exists.intro _ (And.intro e9 (And.intro (vp_in_nI (show t < 16 by omega) (by decide)) ?_)))
        rw [nI_clamp (show t < 2 ^ 31 by omega), hq.1]
        by_cases c1 : vl c = nm
        · refine And.intro (fun cz => absurd (cmp_eq.mpr c1) cz) (fun _ => ?_)
          refine Exists.intro _ (And.intro hr (Exists.intro _ (And.intro rfl ?_)))
          refine Exists.intro _ (Exists.intro _ (And.intro e10 (And.intro (vp_in_nI (show t < 16 by omega) (by decide)) ?_)))
          rw [nI_clamp (show t < 2 ^ 31 by omega), hq.2.1]
          by_cases c2 : zT (zz kd c) = 4
          · refine And.intro (fun _ => ?_) (fun cz => absurd (show nI (zT (zz kd c)) = nI 4 from by rw [c2]) cz)
            exact go_loc (lv' := [(3, .int (nI t)), (0, .ref r), (1, .long nm)]) ⟨rfl, rfl, rfl, trivial⟩ (at76 c1 (Or.inl c2))
          · refine And.intro (fun cz => absurd cz (tne 4 (by decide) c2)) (fun _ => ?_)
            refine Exists.intro _ (And.intro hr (Exists.intro _ (And.intro rfl ?_)))
            refine Exists.intro _ (Exists.intro _ (And.intro e10 (And.intro (vp_in_nI (show t < 16 by omega) (by decide)) ?_)))
            rw [nI_clamp (show t < 2 ^ 31 by omega), hq.2.1]
            by_cases c3 : zT (zz kd c) = 5
            · refine And.intro (fun cz => absurd (show nI (zT (zz kd c)) = nI 5 from by rw [c3]) cz) (fun _ => ?_)
              exact go_loc (lv' := [(3, .int (nI t)), (0, .ref r), (1, .long nm)]) ⟨rfl, rfl, rfl, trivial⟩ (at76 c1 (Or.inr c3))
            · refine And.intro (fun _ => ?_) (fun cz => absurd cz (tne 5 (by decide) c3))
              exact go_loc (lv' := [(3, .int (nI t)), (0, .ref r), (1, .long nm)]) ⟨rfl, rfl, rfl, trivial⟩ (skip (by unfold zVp; rw [decide_eq_false c2, decide_eq_false c3, decide_eq_false (fun z => hno ⟨c1, z⟩), Bool.or_self, Bool.or_self, Bool.and_false]))
        · refine And.intro (fun _ => ?_) (fun cz => absurd cz (fun z => c1 (cmp_eq.mp z)))
          exact go_loc (lv' := [(3, .int (nI t)), (0, .ref r), (1, .long nm)]) ⟨rfl, rfl, rfl, trivial⟩ (skip (by unfold zVp; rw [decide_eq_false c1]; rfl))
      refine Go.of hX.2 ck_X6_variableOf [45] 40 ?_
      refine Exists.intro _ (And.intro hr (Exists.intro _ (And.intro rfl ?_)))
      refine And.intro (fun cz => absurd cz (nI_ge (a := t) (b := zI z + zR z + zL z) (by omega) (by omega))) (fun _ => ?_)
      refine And.intro (fun cz => absurd cz (nI_ge (a := t) (b := 16) (by omega) (by decide))) (fun _ => ?_)
      refine Exists.intro _ (And.intro hr (Exists.intro _ (And.intro rfl ?_)))
      refine Exists.intro _ (Exists.intro _ (And.intro e9 (And.intro (vp_in_nI (show t < 16 by omega) (by decide)) ?_)))
      rw [nI_clamp (show t < 2 ^ 31 by omega), hq.1]
      by_cases c1 : vl c = nm
      · refine And.intro (fun cz => absurd (cmp_eq.mpr c1) cz) (fun _ => ?_)
        refine Exists.intro _ (And.intro hr (Exists.intro _ (And.intro rfl ?_)))
        refine Exists.intro _ (Exists.intro _ (And.intro e10 (And.intro (vp_in_nI (show t < 16 by omega) (by decide)) ?_)))
        rw [nI_clamp (show t < 2 ^ 31 by omega), hq.2.1]
        by_cases c2 : zT (zz kd c) = 6
        · have hp : zVp kd vl nm c = true := by
            unfold zVp
            rw [decide_eq_true c1, c2]
            rfl
          rw [take hp, show zVf kd c = zNo (zz kd c) from if_pos c2] at hP
          refine And.intro (fun cz => absurd (show nI (zT (zz kd c)) = nI 6 from by rw [c2]) cz) (fun _ => ?_)
          refine Exists.intro _ (And.intro hr (Exists.intro _ (And.intro rfl ?_)))
          refine Exists.intro _ (Exists.intro _ (And.intro e11 (And.intro (vp_in_nI (show t < 16 by omega) (by decide)) ?_)))
          rw [nI_clamp (show t < 2 ^ 31 by omega), hq.2.2]
          exact And.intro rfl (hP)
        · refine And.intro (fun _ => ?_) (fun cz => absurd cz (tne 6 (by decide) c2))
          exact go_loc (lv' := [(3, .int (nI t)), (0, .ref r), (1, .long nm)]) ⟨rfl, rfl, rfl, trivial⟩ (at45 (fun z => c2 z.2))
      · refine And.intro (fun _ => ?_) (fun cz => absurd cz (fun z => c1 (cmp_eq.mp z)))
        exact go_loc (lv' := [(3, .int (nI t)), (0, .ref r), (1, .long nm)]) ⟨rfl, rfl, rfl, trivial⟩ (at45 (fun z => c1 z.1))
  refine en_X6_variableOf hX [2] 20 rfl ?_
  exact go_loc (lv' := [(3, .int (nI 0)), (0, .ref r), (1, .long nm)]) ⟨rfl, rfl, rfl, trivial⟩ (loop L 0 rfl (Nat.zero_add _) rfl)
set_option maxHeartbeats 8000000 in
theorem x_tellsName {l : Launch} {G : GG} {h : AH} {nx : Nat} {Post : Option Value → AH → Nat → Prop} {s : Nat} (hX : XC G ∧ TX l G) (hs : s < 13) (hP : Post (some (.int (nI (zN s).toNat))) h nx) : Runs l G i_X6_tellsName 0 0 [.int (nI s)] h nx Post := by
  have kne : ∀ j, j < 100 → s ≠ j → ¬ nI s = nI j := fun j hj z e => z ((nI_eq (by omega) (by omega)).mp e)
  unfold zN at hP
  refine en_X6_tellsName hX [] 20 rfl ?_
  by_cases c1 : s = 1
  · rw [decide_eq_true c1, Bool.true_or] at hP
    refine And.intro (fun _ => ?_) (fun cz => absurd (show nI s = nI 1 from by rw [c1]) cz)
    exact And.intro rfl (hP)
  · rw [decide_eq_false c1, Bool.false_or] at hP
    refine And.intro (fun cz => absurd cz (kne 1 (by decide) c1)) (fun _ => ?_)
    by_cases c2 : s = 3
    · rw [decide_eq_true c2, Bool.true_or] at hP
      refine And.intro (fun _ => ?_) (fun cz => absurd (show nI s = nI 3 from by rw [c2]) cz)
      exact And.intro rfl (hP)
    · rw [decide_eq_false c2, Bool.false_or] at hP
      refine And.intro (fun cz => absurd cz (kne 3 (by decide) c2)) (fun _ => ?_)
      by_cases c3 : s = 7
      · rw [decide_eq_true c3] at hP
        refine And.intro (fun cz => absurd (show nI s = nI 7 from by rw [c3]) cz) (fun _ => ?_)
        exact And.intro rfl (hP)
      · rw [decide_eq_false c3] at hP
        refine And.intro (fun _ => ?_) (fun cz => absurd cz (kne 7 (by decide) c3))
        exact And.intro rfl (hP)
/-- is it a name in a circuit -/
def zQ (kd : Nat → Nat) (j : Nat) : Bool := decide (kd j = 2) && (decide (zS (zz kd j) = 10) || decide (zS (zz kd j) = 11))
/-- the fault of token i as to its name or number -/
def fX (kd : Nat → Nat) (vl : Nat → Int64) (N i : Nat) : Nat := if zS (zz kd i) = 5 then (if 9 < vl i then 5 else 0) else if kd i ≠ 2 then 0 else if zN (zS (zz kd i)) = true then (if (toL kd i).any (fun t => decide (vl t = vl i)) = true then 3 else 0) else if zS (zz kd i) = 8 then (if (zG kd vl (toL kd i) (vl i)).isNone = true then 4 else 0) else (if (zVr kd vl (toL kd N) (vl i)).isNone = true then 4 else 0)
/-- the codes when the names of tokens below i are looked at -/
def cfJ (kd : Nat → Nat) (vl : Nat → Int64) (N i j : Nat) : Int32 := if j < i ∧ zQ kd j = true then zBI (zVr kd vl (toL kd N) (vl j)) else nI (100 + kd j)
theorem cfJ_no {kd : Nat → Nat} {vl : Nat → Int64} {N i : Nat} (h : zQ kd i = false) : cfJ kd vl N (i + 1) = cfJ kd vl N i := funext (fun j => by
  unfold cfJ
  by_cases c : j < i
  · by_cases q : zQ kd j = true
    · rw [if_pos ⟨by omega, q⟩, if_pos ⟨c, q⟩]
    · rw [if_neg (fun z => q z.2), if_neg (fun z => q z.2)]
  · by_cases e : j = i
    · rw [e, if_neg (fun z => by rw [h] at z; cases z.2), if_neg (fun z => by rw [h] at z; cases z.2)]
    · rw [if_neg (fun z => by omega), if_neg (fun z => by omega)])
theorem zB_2 {s d : Nat} (hs : s < 13) (h : ∃ q, zB s d 2 = some q) : s = 1 ∨ s = 3 ∨ s = 7 ∨ s = 8 ∨ s = 10 ∨ s = 11 := by
  obtain ⟨q, h⟩ := h
  have hq : s = 0 ∨ s = 1 ∨ s = 2 ∨ s = 3 ∨ s = 4 ∨ s = 5 ∨ s = 6 ∨ s = 7 ∨ s = 8 ∨ s = 9 ∨ s = 10 ∨ s = 11 ∨ s = 12 := by omega
  rcases hq with rfl | rfl | rfl | rfl | rfl | rfl | rfl | rfl | rfl | rfl | rfl | rfl | rfl
  · exact absurd (show (none : Option Nat) = some q from h) (by intro z; cases z)
  · omega
  · exact absurd (show (none : Option Nat) = some q from h) (by intro z; cases z)
  · omega
  · exact absurd (show (none : Option Nat) = some q from h) (by intro z; cases z)
  · exact absurd (show (none : Option Nat) = some q from h) (by intro z; cases z)
  · exact absurd (show (none : Option Nat) = some q from h) (by intro z; cases z)
  · omega
  · omega
  · exact absurd (show (none : Option Nat) = some q from h) (by intro z; cases z)
  · omega
  · omega
  · have h2 : (if (2 : Nat) = 15 ∨ (2 : Nat) = 16 then some 10 else if (2 : Nat) = 18 ∧ 0 < d then some 12 else if (2 : Nat) = 12 ∧ d = 0 then some 0 else none) = some q := h
    rw [if_neg (by decide), if_neg (by omega), if_neg (by omega)] at h2
    cases h2
theorem lcmp_gt {v : Int64} : 0 < lg_cmp v 9 ↔ 9 < v := by
  unfold lg_cmp
  split
  · next h => exact ⟨fun _ => h, fun _ => by decide⟩
  · next h1 =>
    split
    · exact ⟨fun z => absurd z (by decide), fun z => absurd z h1⟩
    · exact ⟨fun z => absurd z (by decide), fun z => absurd z h1⟩
