/-! the model without a drawing at hand: its calls -/
def NM (h : AH) (o : Nat) (fs : List Value) (z y1 y2 tl : Int32) : Prop := h o = some (.inr (12, fs)) ∧ fs.length = 99 ∧ fs[2]? = some (.int tl) ∧ fs[18]? = some (.int (nI 0)) ∧ fs[19]? = some (.int (-1)) ∧ fs[55]? = some (.int 0) ∧ fs[84]? = some (.int z) ∧ fs[85]? = some (.int y1) ∧ fs[86]? = some (.int y2) ∧ fs[91]? = some (.int 0) ∧ (z = 0 ∨ (z = 1 ∧ y1 = 0 ∧ y2 = 0))
theorem nm_isHut {l : Launch} {G : GG} {h : AH} {nx : Nat} {Post : Option Value → AH → Nat → Prop} {o : Nat} {fs : List Value} {z y1 y2 tl : Int32} {f2 g2 : Int32} (hX : XC G ∧ TX l G) (hN : NM h o fs z y1 y2 tl) (hP : Post (some (.int 0)) h nx) : Runs l G i_X12_isHut 0 0 [.ref o, .int f2, .int g2] h nx Post := by
  obtain ⟨ho, fln, f2, f18, f19, f55, f84, f85, f86, f91, hz⟩ := id hN
  refine en_X12_isHut hX [] 60 rfl ?_
  refine Exists.intro _ (And.intro ho (Exists.intro _ (And.intro f19 ?_)))
  refine And.intro (fun _ => ?_) (fun cz => absurd (by decide) cz)
  exact And.intro rfl hP
theorem nm_isFlaw {l : Launch} {G : GG} {h : AH} {nx : Nat} {Post : Option Value → AH → Nat → Prop} {o : Nat} {fs : List Value} {z y1 y2 tl : Int32} {f2 : Int32} (hX : XC G ∧ TX l G) (hN : NM h o fs z y1 y2 tl) (hP : Post (some (.int 0)) h nx) : Runs l G i_X12_isFlaw 0 0 [.ref o, .int f2] h nx Post := by
  obtain ⟨ho, fln, f2, f18, f19, f55, f84, f85, f86, f91, hz⟩ := id hN
  refine en_X12_isFlaw hX [] 60 rfl ?_
  refine Exists.intro _ (And.intro ho (Exists.intro _ (And.intro f19 ?_)))
  refine And.intro (fun _ => ?_) (fun cz => absurd (by decide) cz)
  exact And.intro rfl hP
theorem nm_contact {l : Launch} {G : GG} {h : AH} {nx : Nat} {Post : Option Value → AH → Nat → Prop} {o : Nat} {fs : List Value} {z y1 y2 tl : Int32} {k what : Int32} (hX : XC G ∧ TX l G) (hN : NM h o fs z y1 y2 tl) (hP : Post (some (.int (-1))) h nx) : Runs l G i_X12_contact 0 0 [.ref o, .int k, .int what] h nx Post := by
  obtain ⟨ho, fln, f2, f18, f19, f55, f84, f85, f86, f91, hz⟩ := id hN
  refine en_X12_contact hX [] 60 rfl ?_
  refine Exists.intro _ (And.intro ho (Exists.intro _ (And.intro f19 ?_)))
  refine And.intro (fun _ => ?_) (fun cz => absurd (by decide) cz)
  exact And.intro rfl hP
theorem nm_settles {l : Launch} {G : GG} {h : AH} {nx : Nat} {Post : Option Value → AH → Nat → Prop} {o : Nat} {fs : List Value} {z y1 y2 tl : Int32} {f2 g2 u1 u2 : Int32} (hX : XC G ∧ TX l G) (hN : NM h o fs z y1 y2 tl) (hP : Post (some (.int (-1))) h nx) : Runs l G i_X12_settles 0 0 [.ref o, .int f2, .int g2, .int u1, .int u2] h nx Post := by
  obtain ⟨ho, fln, f2, f18, f19, f55, f84, f85, f86, f91, hz⟩ := id hN
  refine en_X12_settles hX [] 60 rfl ?_
  refine Exists.intro _ (And.intro ho (Exists.intro 0 (Exists.intro 0 (And.intro (Nat.le_refl _) (And.intro (Nat.le_refl _) (nm_isHut hX hN ?_))))))
  refine And.intro (fun _ => ?_) (fun cz => absurd (by decide) cz)
  exact And.intro rfl hP
theorem nm_shows {l : Launch} {G : GG} {h : AH} {nx : Nat} {Post : Option Value → AH → Nat → Prop} {o : Nat} {fs : List Value} {z y1 y2 tl : Int32} {f2 g2 u1 u2 : Int32} (hX : XC G ∧ TX l G) (hN : NM h o fs z y1 y2 tl) (hP : Post (some (.int (-1))) h nx) : Runs l G i_X12_shows 0 0 [.ref o, .int f2, .int g2, .int u1, .int u2] h nx Post := by
  obtain ⟨ho, fln, f2, f18, f19, f55, f84, f85, f86, f91, hz⟩ := id hN
  refine en_X12_shows hX [] 60 rfl ?_
  refine Exists.intro _ (And.intro ho (Exists.intro 0 (Exists.intro 0 (And.intro (Nat.le_refl _) (And.intro (Nat.le_refl _) (nm_isHut hX hN ?_))))))
  refine And.intro (fun _ => ?_) (fun cz => absurd (by decide) cz)
  exact And.intro rfl hP
theorem nm_start {l : Launch} {G : GG} {h : AH} {nx : Nat} {Post : Option Value → AH → Nat → Prop} {o : Nat} {fs : List Value} {z y1 y2 tl : Int32} {f2 g2 : Int32} (hX : XC G ∧ TX l G) (hN : NM h o fs z y1 y2 tl) (hP : Post (some (.int (-1))) h nx) : Runs l G i_X12_start 0 0 [.ref o, .int f2, .int g2] h nx Post := by
  obtain ⟨ho, fln, f2, f18, f19, f55, f84, f85, f86, f91, hz⟩ := id hN
  refine en_X12_start hX [] 60 rfl ?_
  refine Exists.intro _ (And.intro ho (Exists.intro 0 (Exists.intro 0 (And.intro (Nat.le_refl _) (And.intro (Nat.le_refl _) (nm_isHut hX hN ?_))))))
  refine And.intro (fun cz => absurd cz (by decide)) (fun _ => ?_)
  exact And.intro rfl hP
theorem nm_reached {l : Launch} {G : GG} {h : AH} {nx : Nat} {Post : Option Value → AH → Nat → Prop} {o : Nat} {fs : List Value} {z y1 y2 tl : Int32} {f2 g2 : Int32} (hX : XC G ∧ TX l G) (hN : NM h o fs z y1 y2 tl) (hP : Post (some (.int (-1))) h nx) : Runs l G i_X12_reached 0 0 [.ref o, .int f2, .int g2] h nx Post := by
  obtain ⟨ho, fln, f2, f18, f19, f55, f84, f85, f86, f91, hz⟩ := id hN
  refine en_X12_reached hX [] 60 rfl ?_
  refine Exists.intro _ (And.intro ho (Exists.intro 0 (Exists.intro 0 (And.intro (Nat.le_refl _) (And.intro (Nat.le_refl _) (nm_isHut hX hN ?_))))))
  refine And.intro (fun cz => absurd cz (by decide)) (fun _ => ?_)
  exact And.intro rfl hP
theorem nm_races {l : Launch} {G : GG} {h : AH} {nx : Nat} {Post : Option Value → AH → Nat → Prop} {o : Nat} {fs : List Value} {z y1 y2 tl : Int32} {f2 g2 : Int32} (hX : XC G ∧ TX l G) (hN : NM h o fs z y1 y2 tl) (hP : Post (some (.int (-1))) h nx) : Runs l G i_X12_races 0 0 [.ref o, .int f2, .int g2] h nx Post := by
  obtain ⟨ho, fln, f2, f18, f19, f55, f84, f85, f86, f91, hz⟩ := id hN
  refine en_X12_races hX [] 60 rfl ?_
  refine Exists.intro _ (And.intro ho (Exists.intro 0 (Exists.intro 0 (And.intro (Nat.le_refl _) (And.intro (Nat.le_refl _) (nm_isHut hX hN ?_))))))
  refine And.intro (fun cz => absurd cz (by decide)) (fun _ => ?_)
  exact And.intro rfl hP
theorem nm_bad {l : Launch} {G : GG} {h : AH} {nx : Nat} {Post : Option Value → AH → Nat → Prop} {o : Nat} {fs : List Value} {z y1 y2 tl : Int32} {f2 g2 : Int32} (hX : XC G ∧ TX l G) (hN : NM h o fs z y1 y2 tl) (hP : Post (some (.int (-1))) h nx) : Runs l G i_X12_bad 0 0 [.ref o, .int f2, .int g2] h nx Post := by
  obtain ⟨ho, fln, f2, f18, f19, f55, f84, f85, f86, f91, hz⟩ := id hN
  refine en_X12_bad hX [] 60 rfl ?_
  refine Exists.intro _ (And.intro ho (Exists.intro 0 (Exists.intro 0 (And.intro (Nat.le_refl _) (And.intro (Nat.le_refl _) (nm_isHut hX hN ?_))))))
  refine And.intro (fun cz => absurd cz (by decide)) (fun _ => ?_)
  exact And.intro rfl hP
theorem nm_badAct {l : Launch} {G : GG} {h : AH} {nx : Nat} {Post : Option Value → AH → Nat → Prop} {o : Nat} {fs : List Value} {z y1 y2 tl : Int32} {f2 g2 i : Int32} (hX : XC G ∧ TX l G) (hN : NM h o fs z y1 y2 tl) (hP : Post (some (.int (-1))) h nx) : Runs l G i_X12_badAct 0 0 [.ref o, .int f2, .int g2, .int i] h nx Post := by
  obtain ⟨ho, fln, f2, f18, f19, f55, f84, f85, f86, f91, hz⟩ := id hN
  refine en_X12_badAct hX [] 60 rfl ?_
  refine Exists.intro _ (And.intro ho (Exists.intro 0 (Exists.intro 0 (And.intro (Nat.le_refl _) (And.intro (Nat.le_refl _) (nm_bad hX hN ?_))))))
  refine And.intro (fun cz => absurd cz (by decide)) (fun _ => ?_)
  exact And.intro rfl hP
theorem nm_pairs {l : Launch} {G : GG} {h : AH} {nx : Nat} {Post : Option Value → AH → Nat → Prop} {o : Nat} {fs : List Value} {z y1 y2 tl : Int32} {f2 : Int32} (hX : XC G ∧ TX l G) (hN : NM h o fs z y1 y2 tl) (hP : Post (some (.int (-1))) h nx) : Runs l G i_X12_pairs 0 0 [.ref o, .int f2] h nx Post := by
  obtain ⟨ho, fln, f2, f18, f19, f55, f84, f85, f86, f91, hz⟩ := id hN
  refine en_X12_pairs hX [] 60 rfl ?_
  refine Exists.intro _ (And.intro ho (Exists.intro 0 (Exists.intro 0 (And.intro (Nat.le_refl _) (And.intro (Nat.le_refl _) (nm_isFlaw hX hN ?_))))))
  refine And.intro (fun cz => absurd cz (by decide)) (fun _ => ?_)
  exact And.intro rfl hP
theorem nm_least {l : Launch} {G : GG} {h : AH} {nx : Nat} {Post : Option Value → AH → Nat → Prop} {o : Nat} {fs : List Value} {z y1 y2 tl : Int32} {f2 : Int32} (hX : XC G ∧ TX l G) (hN : NM h o fs z y1 y2 tl) (hP : Post (some (.int (-1))) h nx) : Runs l G i_X12_least 0 0 [.ref o, .int f2] h nx Post := by
  obtain ⟨ho, fln, f2, f18, f19, f55, f84, f85, f86, f91, hz⟩ := id hN
  refine en_X12_least hX [] 60 rfl ?_
  refine Exists.intro _ (And.intro ho (Exists.intro 0 (Exists.intro 0 (And.intro (Nat.le_refl _) (And.intro (Nat.le_refl _) (nm_isFlaw hX hN ?_))))))
  refine And.intro (fun cz => absurd cz (by decide)) (fun _ => ?_)
  exact And.intro rfl hP
theorem nm_pair {l : Launch} {G : GG} {h : AH} {nx : Nat} {Post : Option Value → AH → Nat → Prop} {o : Nat} {fs : List Value} {z y1 y2 tl : Int32} {f2 i : Int32} (hX : XC G ∧ TX l G) (hN : NM h o fs z y1 y2 tl) (hP : Post (some (.int (-1))) h nx) : Runs l G i_X12_pair 0 0 [.ref o, .int f2, .int i] h nx Post := by
  obtain ⟨ho, fln, f2, f18, f19, f55, f84, f85, f86, f91, hz⟩ := id hN
  refine en_X12_pair hX [] 60 rfl ?_
  refine Exists.intro _ (And.intro ho (Exists.intro 0 (Exists.intro 0 (And.intro (Nat.le_refl _) (And.intro (Nat.le_refl _) (nm_isFlaw hX hN ?_))))))
  refine And.intro (fun cz => absurd cz (by decide)) (fun _ => ?_)
  exact And.intro rfl hP
theorem nm_leastAct {l : Launch} {G : GG} {h : AH} {nx : Nat} {Post : Option Value → AH → Nat → Prop} {o : Nat} {fs : List Value} {z y1 y2 tl : Int32} {f2 i : Int32} (hX : XC G ∧ TX l G) (hN : NM h o fs z y1 y2 tl) (hP : Post (some (.int (-1))) h nx) : Runs l G i_X12_leastAct 0 0 [.ref o, .int f2, .int i] h nx Post := by
  obtain ⟨ho, fln, f2, f18, f19, f55, f84, f85, f86, f91, hz⟩ := id hN
  refine en_X12_leastAct hX [] 60 rfl ?_
  refine Exists.intro _ (And.intro ho (Exists.intro 0 (Exists.intro 0 (And.intro (Nat.le_refl _) (And.intro (Nat.le_refl _) (nm_isFlaw hX hN ?_))))))
  refine And.intro (fun cz => absurd cz (by decide)) (fun _ => ?_)
  exact And.intro rfl hP
theorem nm_flaw {l : Launch} {G : GG} {h : AH} {nx : Nat} {Post : Option Value → AH → Nat → Prop} {o : Nat} {fs : List Value} {z y1 y2 tl : Int32} {i : Int32} (hX : XC G ∧ TX l G) (hN : NM h o fs z y1 y2 tl) (hP : Post (some (.int (-1))) h nx) : Runs l G i_X12_flaw 0 0 [.ref o, .int i] h nx Post := by
  obtain ⟨ho, fln, f2, f18, f19, f55, f84, f85, f86, f91, hz⟩ := id hN
  have loop : ∀ (k j : Nat), j + k = 212 → Go l G 12 s_X12_flaw 0 0 Post 4 [(3, .int (nI j)), (2, .int 0), (0, .ref o), (1, .int i)] [] h nx 0 0 := by
    intro k
    induction k with
    | zero =>
      intro j hj
      obtain rfl : j = 212 := by omega
      refine Go.of hX.2 ck_X12_flaw [4] 20 ?_
      refine And.intro (fun _ => ?_) (fun cz => absurd (by decide) cz)
      exact And.intro rfl hP
    | succ k ih =>
      intro j hj
      refine Go.of hX.2 ck_X12_flaw [4] 40 ?_
      refine And.intro (fun c1 => absurd c1 (nI_ge (b := 212) (by omega) (by decide))) (fun _ => ?_)
      refine Exists.intro _ (And.intro ho (Exists.intro 0 (Exists.intro 0 (And.intro (Nat.le_refl _) (And.intro (Nat.le_refl _) (nm_isFlaw hX hN ?_))))))
      refine And.intro (fun cz => absurd cz (by decide)) (fun _ => ?_)
      refine go_loc (lv' := [(3, .int (nI j + 1)), (2, .int 0), (0, .ref o), (1, .int i)]) ⟨rfl, rfl, rfl, rfl, trivial⟩ ?_
      rw [← nI_succ]
      exact ih (j + 1) (by omega)
  refine en_X12_flaw hX [4] 60 rfl ?_
  exact go_loc (lv' := [(3, .int (nI 0)), (2, .int 0), (0, .ref o), (1, .int i)]) ⟨rfl, rfl, rfl, rfl, trivial⟩ (loop 212 0 rfl)
theorem nm_singles {l : Launch} {G : GG} {h : AH} {nx : Nat} {Post : Option Value → AH → Nat → Prop} {o : Nat} {fs : List Value} {z y1 y2 tl : Int32}  (hX : XC G ∧ TX l G) (hN : NM h o fs z y1 y2 tl) (hP : Post (some (.int 0)) h nx) : Runs l G i_X12_singles 0 0 [.ref o] h nx Post := by
  obtain ⟨ho, fln, f2, f18, f19, f55, f84, f85, f86, f91, hz⟩ := id hN
  have loop : ∀ (k j : Nat), j + k = 212 → Go l G 12 s_X12_singles 0 0 Post 4 [(2, .int (nI j)), (1, .int 0), (0, .ref o)] [] h nx 0 0 := by
    intro k
    induction k with
    | zero =>
      intro j hj
      obtain rfl : j = 212 := by omega
      refine Go.of hX.2 ck_X12_singles [4] 20 ?_
      refine And.intro (fun _ => ?_) (fun cz => absurd (by decide) cz)
      exact And.intro rfl hP
    | succ k ih =>
      intro j hj
      refine Go.of hX.2 ck_X12_singles [4] 40 ?_
      refine And.intro (fun c1 => absurd c1 (nI_ge (b := 212) (by omega) (by decide))) (fun _ => ?_)
      refine Exists.intro _ (And.intro ho (Exists.intro 0 (Exists.intro 0 (And.intro (Nat.le_refl _) (And.intro (Nat.le_refl _) (nm_isFlaw hX hN ?_))))))
      refine And.intro (fun _ => ?_) (fun cz => absurd (by decide) cz)
      refine go_loc (lv' := [(2, .int (nI j + 1)), (1, .int 0), (0, .ref o)]) ⟨rfl, rfl, rfl, trivial⟩ ?_
      rw [← nI_succ]
      exact ih (j + 1) (by omega)
  refine en_X12_singles hX [4] 60 rfl ?_
  exact go_loc (lv' := [(2, .int (nI 0)), (1, .int 0), (0, .ref o)]) ⟨rfl, rfl, rfl, trivial⟩ (loop 212 0 rfl)
def fsS (fs : List Value) : List Value := ((fs.set 84 (.int 1)).set 85 (.int 0)).set 86 (.int 0)
theorem nm_suited {h : AH} {o : Nat} {fs : List Value} {z y1 y2 tl : Int32} (hN : NM h o fs z y1 y2 tl) : NM (uph h o (.inr (12, fsS fs))) o (fsS fs) 1 0 0 tl := by
  obtain ⟨ho, fln, f2, f18, f19, f55, f84, f85, f86, f91, hz⟩ := id hN
  have hl4 : (fs.set 84 (.int 1)).length = 99 := by rw [List.length_set]; exact fln
  have hl5 : ((fs.set 84 (.int 1)).set 85 (.int 0)).length = 99 := by rw [List.length_set]; exact hl4
  have hg : ∀ k, k ≠ 84 → k ≠ 85 → k ≠ 86 → (fsS fs)[k]? = fs[k]? := fun k h1 h2 h3 => by unfold fsS; rw [get_set_ne (Ne.symm h3), get_set_ne (Ne.symm h2), get_set_ne (Ne.symm h1)]
  exact ⟨uph_eq, by unfold fsS; rw [List.length_set]; exact hl5, by rw [hg 2 (by decide) (by decide) (by decide)]; exact f2, by rw [hg 18 (by decide) (by decide) (by decide)]; exact f18, by rw [hg 19 (by decide) (by decide) (by decide)]; exact f19, by rw [hg 55 (by decide) (by decide) (by decide)]; exact f55, by unfold fsS; rw [get_set_ne (by decide), get_set_ne (by decide)]; exact get_set (by omega), by unfold fsS; rw [get_set_ne (by decide)]; exact get_set (by omega), get_set (by omega), by rw [hg 91 (by decide) (by decide) (by decide)]; exact f91, Or.inr ⟨rfl, rfl, rfl⟩⟩
theorem nm_makesSuite {l : Launch} {G : GG} {h : AH} {nx : Nat} {Post : Option Value → AH → Nat → Prop} {o : Nat} {fs : List Value} {z y1 y2 tl : Int32}  (hX : XC G ∧ TX l G) (hN : NM h o fs z y1 y2 tl) (hP : Post none (uph h o (.inr (12, fsS fs))) nx) : Runs l G i_X12_makesSuite 0 0 [.ref o] h nx Post := by
  obtain ⟨ho, fln, f2, f18, f19, f55, f84, f85, f86, f91, hz⟩ := id hN
  refine en_X12_makesSuite hX [] 80 rfl ?_
  refine Exists.intro _ (And.intro ho (Exists.intro _ (And.intro f84 ?_)))
  rcases hz with rfl | ⟨rfl, rfl, rfl⟩
  · refine And.intro (fun _ => ?_) (fun cz => absurd (by decide) cz)
    refine Exists.intro _ (And.intro ho (And.intro (by omega) (And.intro rfl (And.intro rfl ?_))))
    refine Exists.intro _ (And.intro uph_eq (And.intro (by rw [List.length_set]; omega) (And.intro rfl (And.intro rfl ?_))))
    refine Exists.intro _ (And.intro uph_eq (And.intro (by rw [List.length_set, List.length_set]; omega) (And.intro rfl (And.intro rfl ?_))))
    rw [uph_uph, uph_uph]
    refine Exists.intro _ (And.intro uph_eq (Exists.intro _ (And.intro (by rw [get_set_ne (by decide), get_set_ne (by decide), get_set_ne (by decide)]; exact f19) ?_)))
    refine And.intro (fun cz => absurd cz (by decide)) (fun _ => ?_)
    exact hP
  · refine And.intro (fun cz => absurd cz (by decide)) (fun _ => ?_)
    have e1 : fsS fs = fs := by unfold fsS; rw [set_same f84, set_same f85, set_same f86]
    rw [e1, uph_self ho] at hP
    exact hP
theorem nm_hidden {l : Launch} {G : GG} {h : AH} {nx : Nat} {Post : Option Value → AH → Nat → Prop} {o : Nat} {fs : List Value} {z y1 y2 tl : Int32}  (hX : XC G ∧ TX l G) (hN : NM h o fs z y1 y2 tl) (hP : Post (some (.int 0)) (uph h o (.inr (12, fsS fs))) nx) : Runs l G i_X12_hidden 0 0 [.ref o] h nx Post := by
  obtain ⟨ho, fln, f2, f18, f19, f55, f84, f85, f86, f91, hz⟩ := id hN
  refine en_X12_hidden hX [] 60 rfl ?_
  refine Exists.intro _ (And.intro ho (Exists.intro 0 (Exists.intro 0 (And.intro (Nat.le_refl _) (And.intro (Nat.le_refl _) (nm_makesSuite hX hN ?_))))))
  have hN2 := nm_suited hN
  clear hz f91 f86 f85 f84 f55 f19 f18 f2 fln ho
  obtain ⟨ho, fln, f2, f18, f19, f55, f84, f85, f86, f91, hz⟩ := id hN2
  refine Exists.intro _ (And.intro ho (Exists.intro _ (And.intro f85 ?_)))
  exact And.intro rfl hP
theorem nm_suite {l : Launch} {G : GG} {h : AH} {nx : Nat} {Post : Option Value → AH → Nat → Prop} {o : Nat} {fs : List Value} {z y1 y2 tl : Int32}  (hX : XC G ∧ TX l G) (hN : NM h o fs z y1 y2 tl) (hP : Post (some (.int 0)) (uph h o (.inr (12, fsS fs))) nx) : Runs l G i_X12_suite 0 0 [.ref o] h nx Post := by
  obtain ⟨ho, fln, f2, f18, f19, f55, f84, f85, f86, f91, hz⟩ := id hN
  refine en_X12_suite hX [] 60 rfl ?_
  refine Exists.intro _ (And.intro ho (Exists.intro 0 (Exists.intro 0 (And.intro (Nat.le_refl _) (And.intro (Nat.le_refl _) (nm_makesSuite hX hN ?_))))))
  have hN2 := nm_suited hN
  clear hz f91 f86 f85 f84 f55 f19 f18 f2 fln ho
  obtain ⟨ho, fln, f2, f18, f19, f55, f84, f85, f86, f91, hz⟩ := id hN2
  refine Exists.intro _ (And.intro ho (Exists.intro _ (And.intro f86 ?_)))
  exact And.intro rfl hP
theorem nm_suiteAct {l : Launch} {G : GG} {h : AH} {nx : Nat} {Post : Option Value → AH → Nat → Prop} {o : Nat} {fs : List Value} {z y1 y2 tl : Int32} {k i : Int32} (hX : XC G ∧ TX l G) (hN : NM h o fs z y1 y2 tl) (hP : Post (some (.int (-1))) (uph h o (.inr (12, fsS fs))) nx) : Runs l G i_X12_suiteAct 0 0 [.ref o, .int k, .int i] h nx Post := by
  obtain ⟨ho, fln, f2, f18, f19, f55, f84, f85, f86, f91, hz⟩ := id hN
  refine en_X12_suiteAct hX [] 60 rfl ?_
  refine Exists.intro _ (And.intro ho (Exists.intro 0 (Exists.intro 0 (And.intro (Nat.le_refl _) (And.intro (Nat.le_refl _) (nm_makesSuite hX hN ?_))))))
  have hN2 := nm_suited hN
  clear hz f91 f86 f85 f84 f55 f19 f18 f2 fln ho
  obtain ⟨ho, fln, f2, f18, f19, f55, f84, f85, f86, f91, hz⟩ := id hN2
  refine Exists.intro _ (And.intro ho (Exists.intro _ (And.intro f86 ?_)))
  refine Exists.intro 0 (Exists.intro 0 (And.intro (Nat.le_refl _) (And.intro (Nat.le_refl _) (c_in hX ?_))))
  rw [if_neg (show ¬ (0 ≤ k ∧ k ≤ 0 - 1) from no_in)]
  refine And.intro (fun _ => ?_) (fun cz => absurd (by decide) cz)
  exact And.intro rfl hP
theorem nm_suiteActs {l : Launch} {G : GG} {h : AH} {nx : Nat} {Post : Option Value → AH → Nat → Prop} {o : Nat} {fs : List Value} {z y1 y2 tl : Int32}  (hX : XC G ∧ TX l G) (hN : NM h o fs z y1 y2 tl) (hP : Post (some (.int 0)) (uph h o (.inr (12, fsS fs))) nx) : Runs l G i_X12_suiteActs 0 0 [.ref o] h nx Post := by
  obtain ⟨ho, fln, f2, f18, f19, f55, f84, f85, f86, f91, hz⟩ := id hN
  refine en_X12_suiteActs hX [] 60 rfl ?_
  refine Exists.intro _ (And.intro ho (Exists.intro 0 (Exists.intro 0 (And.intro (Nat.le_refl _) (And.intro (Nat.le_refl _) (nm_makesSuite hX hN ?_))))))
  have hN2 := nm_suited hN
  clear hz f91 f86 f85 f84 f55 f19 f18 f2 fln ho
  obtain ⟨ho, fln, f2, f18, f19, f55, f84, f85, f86, f91, hz⟩ := id hN2
  refine Exists.intro _ (And.intro ho (Exists.intro _ (And.intro f86 ?_)))
  refine And.intro (fun _ => ?_) (fun cz => absurd (by decide) cz)
  exact And.intro rfl hP
theorem nm_isDrawing {l : Launch} {G : GG} {h : AH} {nx : Nat} {Post : Option Value → AH → Nat → Prop} {o : Nat} {fs : List Value} {z y1 y2 tl : Int32} {d : Int32} (hX : XC G ∧ TX l G) (hN : NM h o fs z y1 y2 tl) (hP : Post (some (.int 0)) h nx) : Runs l G i_X12_isDrawing 0 0 [.ref o, .int d] h nx Post := by
  obtain ⟨ho, fln, f2, f18, f19, f55, f84, f85, f86, f91, hz⟩ := id hN
  refine c_isDrawingM (c := 0) hX ho f18 ?_
  rw [if_neg (show ¬ (0 ≤ d ∧ d ≤ nI 0 - 1) from no_in)]
  exact hP
theorem nm_unlike {l : Launch} {G : GG} {h : AH} {nx : Nat} {Post : Option Value → AH → Nat → Prop} {o : Nat} {fs : List Value} {z y1 y2 tl : Int32} {a b : Int32} (hX : XC G ∧ TX l G) (hN : NM h o fs z y1 y2 tl) (hP : Post (some (.int (-1))) h nx) : Runs l G i_X12_unlike 0 0 [.ref o, .int a, .int b] h nx Post := by
  obtain ⟨ho, fln, f2, f18, f19, f55, f84, f85, f86, f91, hz⟩ := id hN
  refine en_X12_unlike hX [] 60 rfl ?_
  refine Exists.intro _ (And.intro ho (Exists.intro 0 (Exists.intro 0 (And.intro (Nat.le_refl _) (And.intro (Nat.le_refl _) (nm_isDrawing hX hN ?_))))))
  refine And.intro (fun _ => ?_) (fun cz => absurd (by decide) cz)
  exact And.intro rfl hP
theorem nm_safe {l : Launch} {G : GG} {h : AH} {nx : Nat} {Post : Option Value → AH → Nat → Prop} {o : Nat} {fs : List Value} {z y1 y2 tl : Int32} {a b t : Int32} (hX : XC G ∧ TX l G) (hN : NM h o fs z y1 y2 tl) (hP : Post (some (.int (-1))) h nx) : Runs l G i_X12_safe 0 0 [.ref o, .int a, .int b, .int t] h nx Post := by
  obtain ⟨ho, fln, f2, f18, f19, f55, f84, f85, f86, f91, hz⟩ := id hN
  refine en_X12_safe hX [] 60 rfl ?_
  refine Exists.intro _ (And.intro ho (Exists.intro 0 (Exists.intro 0 (And.intro (Nat.le_refl _) (And.intro (Nat.le_refl _) (nm_isDrawing hX hN ?_))))))
  refine And.intro (fun _ => ?_) (fun cz => absurd (by decide) cz)
  exact And.intro rfl hP
theorem nm_plan {l : Launch} {G : GG} {h : AH} {nx : Nat} {Post : Option Value → AH → Nat → Prop} {o : Nat} {fs : List Value} {z y1 y2 tl : Int32} {a b t : Int32} (hX : XC G ∧ TX l G) (hN : NM h o fs z y1 y2 tl) (hP : Post (some (.int (-1))) h nx) : Runs l G i_X12_plan 0 0 [.ref o, .int a, .int b, .int t] h nx Post := by
  obtain ⟨ho, fln, f2, f18, f19, f55, f84, f85, f86, f91, hz⟩ := id hN
  refine en_X12_plan hX [] 60 rfl ?_
  refine Exists.intro _ (And.intro ho (Exists.intro 0 (Exists.intro 0 (And.intro (Nat.le_refl _) (And.intro (Nat.le_refl _) (nm_isDrawing hX hN ?_))))))
  refine And.intro (fun _ => ?_) (fun cz => absurd (by decide) cz)
  exact And.intro rfl hP
theorem nm_stage {l : Launch} {G : GG} {h : AH} {nx : Nat} {Post : Option Value → AH → Nat → Prop} {o : Nat} {fs : List Value} {z y1 y2 tl : Int32} {a b t i : Int32} (hX : XC G ∧ TX l G) (hN : NM h o fs z y1 y2 tl) (hP : Post (some (.int (-1))) h nx) : Runs l G i_X12_stage 0 0 [.ref o, .int a, .int b, .int t, .int i] h nx Post := by
  obtain ⟨ho, fln, f2, f18, f19, f55, f84, f85, f86, f91, hz⟩ := id hN
  refine en_X12_stage hX [] 60 rfl ?_
  refine Exists.intro _ (And.intro ho (Exists.intro 0 (Exists.intro 0 (And.intro (Nat.le_refl _) (And.intro (Nat.le_refl _) (nm_plan hX hN ?_))))))
  refine And.intro (fun _ => ?_) (fun cz => absurd (by decide) cz)
  exact And.intro rfl hP
theorem nm_log {l : Launch} {G : GG} {h : AH} {nx : Nat} {Post : Option Value → AH → Nat → Prop} {o : Nat} {fs : List Value} {z y1 y2 tl : Int32} {a b t : Int32} (hX : XC G ∧ TX l G) (hN : NM h o fs z y1 y2 tl) (hP : Post (some (.int (-1))) h nx) : Runs l G i_X12_log 0 0 [.ref o, .int a, .int b, .int t] h nx Post := by
  obtain ⟨ho, fln, f2, f18, f19, f55, f84, f85, f86, f91, hz⟩ := id hN
  refine en_X12_log hX [] 60 rfl ?_
  refine Exists.intro _ (And.intro ho (Exists.intro _ (And.intro f91 ?_)))
  refine And.intro (fun cz => absurd cz (by decide)) (fun _ => ?_)
  refine Exists.intro _ (And.intro ho (Exists.intro _ (And.intro f19 ?_)))
  refine And.intro (fun _ => ?_) (fun cz => absurd (by decide) cz)
  exact And.intro rfl hP
theorem nm_annul {l : Launch} {G : GG} {h : AH} {nx : Nat} {Post : Option Value → AH → Nat → Prop} {o : Nat} {fs : List Value} {z y1 y2 tl : Int32} {k : Int32} (hX : XC G ∧ TX l G) (hN : NM h o fs z y1 y2 tl) (hP : Post (some (.int (-1))) h nx) : Runs l G i_X12_annul 0 0 [.ref o, .int k] h nx Post := by
  obtain ⟨ho, fln, f2, f18, f19, f55, f84, f85, f86, f91, hz⟩ := id hN
  refine en_X12_annul hX [] 60 rfl ?_
  refine Exists.intro _ (And.intro ho (Exists.intro _ (And.intro f91 ?_)))
  refine And.intro (fun cz => absurd cz (by decide)) (fun _ => ?_)
  refine Exists.intro _ (And.intro ho (Exists.intro _ (And.intro f91 ?_)))
  refine Exists.intro 0 (Exists.intro 0 (And.intro (Nat.le_refl _) (And.intro (Nat.le_refl _) (c_in hX ?_))))
  rw [if_neg (show ¬ (0 ≤ k ∧ k ≤ 0 - 1) from no_in)]
  refine And.intro (fun _ => ?_) (fun cz => absurd (by decide) cz)
  exact And.intro rfl hP
theorem nm_fits {l : Launch} {G : GG} {h : AH} {nx : Nat} {Post : Option Value → AH → Nat → Prop} {o : Nat} {fs : List Value} {z y1 y2 tl : Int32} {a b : Int32} (hX : XC G ∧ TX l G) (hN : NM h o fs z y1 y2 tl) (hP : Post (some (.int (-2))) h nx) : Runs l G i_X12_fits 0 0 [.ref o, .int a, .int b] h nx Post := by
  obtain ⟨ho, fln, f2, f18, f19, f55, f84, f85, f86, f91, hz⟩ := id hN
  refine en_X12_fits hX [] 60 rfl ?_
  refine Exists.intro _ (And.intro ho (Exists.intro _ (And.intro f19 ?_)))
  refine And.intro (fun _ => ?_) (fun cz => absurd (by decide) cz)
  exact And.intro rfl hP
theorem nm_suspects {l : Launch} {G : GG} {h : AH} {nx : Nat} {Post : Option Value → AH → Nat → Prop} {o : Nat} {fs : List Value} {z y1 y2 tl : Int32} {a : Int32} (hX : XC G ∧ TX l G) (hN : NM h o fs z y1 y2 tl) (hP : Post (some (.int (-1))) h nx) : Runs l G i_X12_suspects 0 0 [.ref o, .int a] h nx Post := by
  obtain ⟨ho, fln, f2, f18, f19, f55, f84, f85, f86, f91, hz⟩ := id hN
  refine en_X12_suspects hX [] 60 rfl ?_
  refine Exists.intro _ (And.intro ho (Exists.intro _ (And.intro f19 ?_)))
  refine And.intro (fun _ => ?_) (fun cz => absurd (by decide) cz)
  exact And.intro rfl hP
theorem nm_next {l : Launch} {G : GG} {h : AH} {nx : Nat} {Post : Option Value → AH → Nat → Prop} {o : Nat} {fs : List Value} {z y1 y2 tl : Int32} {a : Int32} (hX : XC G ∧ TX l G) (hN : NM h o fs z y1 y2 tl) (hP : Post (some (.int (-1))) h nx) : Runs l G i_X12_next 0 0 [.ref o, .int a] h nx Post := by
  obtain ⟨ho, fln, f2, f18, f19, f55, f84, f85, f86, f91, hz⟩ := id hN
  refine en_X12_next hX [] 60 rfl ?_
  refine Exists.intro _ (And.intro ho (Exists.intro _ (And.intro f19 ?_)))
  refine And.intro (fun _ => ?_) (fun cz => absurd (by decide) cz)
  exact And.intro rfl hP
theorem nm_set {l : Launch} {G : GG} {h : AH} {nx : Nat} {Post : Option Value → AH → Nat → Prop} {o : Nat} {fs : List Value} {z y1 y2 tl : Int32} {k on : Int32} (hX : XC G ∧ TX l G) (hN : NM h o fs z y1 y2 tl) (hP : Post (some (.int 0)) h nx) : Runs l G i_X12_set 0 0 [.ref o, .int k, .int on] h nx Post := by
  obtain ⟨ho, fln, f2, f18, f19, f55, f84, f85, f86, f91, hz⟩ := id hN
  refine en_X12_set hX [] 60 rfl ?_
  refine Exists.intro _ (And.intro ho (Exists.intro _ (And.intro f19 ?_)))
  refine And.intro (fun _ => ?_) (fun cz => absurd (by decide) cz)
  exact And.intro rfl hP
theorem nm_strap {l : Launch} {G : GG} {h : AH} {nx : Nat} {Post : Option Value → AH → Nat → Prop} {o : Nat} {fs : List Value} {z y1 y2 tl : Int32} {k on : Int32} (hX : XC G ∧ TX l G) (hN : NM h o fs z y1 y2 tl) (hP : Post (some (.int 0)) h nx) : Runs l G i_X12_strap 0 0 [.ref o, .int k, .int on] h nx Post := by
  obtain ⟨ho, fln, f2, f18, f19, f55, f84, f85, f86, f91, hz⟩ := id hN
  refine en_X12_strap hX [] 60 rfl ?_
  refine Exists.intro _ (And.intro ho (Exists.intro _ (And.intro f19 ?_)))
  refine And.intro (fun _ => ?_) (fun cz => absurd (by decide) cz)
  exact And.intro rfl hP
theorem nm_age {l : Launch} {G : GG} {h : AH} {nx : Nat} {Post : Option Value → AH → Nat → Prop} {o : Nat} {fs : List Value} {z y1 y2 tl : Int32} {k on : Int32} (hX : XC G ∧ TX l G) (hN : NM h o fs z y1 y2 tl) (hP : Post (some (.int 0)) h nx) : Runs l G i_X12_age 0 0 [.ref o, .int k, .int on] h nx Post := by
  obtain ⟨ho, fln, f2, f18, f19, f55, f84, f85, f86, f91, hz⟩ := id hN
  refine en_X12_age hX [] 60 rfl ?_
  refine Exists.intro _ (And.intro ho (Exists.intro _ (And.intro f19 ?_)))
  refine And.intro (fun _ => ?_) (fun cz => absurd (by decide) cz)
  exact And.intro rfl hP
theorem nm_round {l : Launch} {G : GG} {h : AH} {nx : Nat} {Post : Option Value → AH → Nat → Prop} {o : Nat} {fs : List Value} {z y1 y2 tl : Int32}  (hX : XC G ∧ TX l G) (hN : NM h o fs z y1 y2 tl) (hP : Post (some (.int (-1))) h nx) : Runs l G i_X12_round 0 0 [.ref o] h nx Post := by
  obtain ⟨ho, fln, f2, f18, f19, f55, f84, f85, f86, f91, hz⟩ := id hN
  refine en_X12_round hX [] 60 rfl ?_
  refine Exists.intro _ (And.intro ho (Exists.intro _ (And.intro f19 ?_)))
  refine And.intro (fun cz => absurd cz (by decide)) (fun _ => ?_)
  exact And.intro rfl hP
theorem nm_hand {l : Launch} {G : GG} {h : AH} {nx : Nat} {Post : Option Value → AH → Nat → Prop} {o : Nat} {fs : List Value} {z y1 y2 tl : Int32} {k : Int32} (hX : XC G ∧ TX l G) (hN : NM h o fs z y1 y2 tl) (hP : Post (some (.int (-1))) h nx) : Runs l G i_X12_hand 0 0 [.ref o, .int k] h nx Post := by
  obtain ⟨ho, fln, f2, f18, f19, f55, f84, f85, f86, f91, hz⟩ := id hN
  refine en_X12_hand hX [] 60 rfl ?_
  refine Exists.intro _ (And.intro ho (Exists.intro _ (And.intro f19 ?_)))
  refine And.intro (fun cz => absurd cz (by decide)) (fun _ => ?_)
  exact And.intro rfl hP
theorem nm_clash {l : Launch} {G : GG} {h : AH} {nx : Nat} {Post : Option Value → AH → Nat → Prop} {o : Nat} {fs : List Value} {z y1 y2 tl : Int32}  (hX : XC G ∧ TX l G) (hN : NM h o fs z y1 y2 tl) (hP : Post (some (.int 0)) h nx) : Runs l G i_X12_clash 0 0 [.ref o] h nx Post := by
  obtain ⟨ho, fln, f2, f18, f19, f55, f84, f85, f86, f91, hz⟩ := id hN
  refine en_X12_clash hX [] 60 rfl ?_
  refine Exists.intro _ (And.intro ho (Exists.intro _ (And.intro f55 ?_)))
  refine And.intro (fun _ => ?_) (fun cz => absurd (by decide) cz)
  exact And.intro rfl hP
theorem nm_use {l : Launch} {G : GG} {h : AH} {nx : Nat} {Post : Option Value → AH → Nat → Prop} {o : Nat} {fs : List Value} {z y1 y2 tl : Int32} {d : Int32} (hX : XC G ∧ TX l G) (hN : NM h o fs z y1 y2 tl) (hP : Post (some (.int 0)) h nx) : Runs l G i_X12_use 0 0 [.ref o, .int d] h nx Post := by
  obtain ⟨ho, fln, f2, f18, f19, f55, f84, f85, f86, f91, hz⟩ := id hN
  refine en_X12_use hX [] 60 rfl ?_
  refine Exists.intro _ (And.intro ho (Exists.intro 0 (Exists.intro 0 (And.intro (Nat.le_refl _) (And.intro (Nat.le_refl _) (nm_isDrawing hX hN ?_))))))
  refine And.intro (fun cz => absurd cz (by decide)) (fun _ => ?_)
  exact And.intro rfl hP
theorem nm_count {l : Launch} {G : GG} {h : AH} {nx : Nat} {Post : Option Value → AH → Nat → Prop} {o : Nat} {fs : List Value} {z y1 y2 tl : Int32} {w : Int32} (hX : XC G ∧ TX l G) (hN : NM h o fs z y1 y2 tl) (hP : Post (some (.int (cntN w tl))) h nx) : Runs l G i_X12_count 0 0 [.ref o, .int w] h nx Post := by
  obtain ⟨ho, fln, f2, f18, f19, f55, f84, f85, f86, f91, hz⟩ := id hN
  refine en_X12_count hX [] 60 rfl ?_
  by_cases h0 : w = 0
  · subst h0
    rw [show cntN 0 tl = 0 from rfl] at hP
    refine Exists.intro 36 (And.intro (by decide) ?_)
    refine Exists.intro _ (And.intro ho (Exists.intro _ (And.intro f18 ?_)))
    exact And.intro rfl hP
  · by_cases h8 : w = 8
    · subst h8
      rw [show cntN 8 tl = 0 from rfl] at hP
      refine Exists.intro 41 (And.intro (by decide) ?_)
      refine Exists.intro _ (And.intro ho (Exists.intro _ (And.intro f91 ?_)))
      exact And.intro rfl hP
    · by_cases h9 : w = 9
      · subst h9
        rw [show cntN 9 tl = tl from rfl] at hP
        refine Exists.intro 46 (And.intro (by decide) ?_)
        refine Exists.intro _ (And.intro ho (Exists.intro _ (And.intro f2 ?_)))
        exact And.intro rfl hP
      · rw [cntN_1 h0 h8 h9] at hP
        refine Exists.intro 51 (And.intro (by show (1 : Int) + Op.lookupswitch.offset [(0, 35), (8, 40), (9, 45)] 50 w.toInt = ((51 : Nat) : Int); rw [Op.lookupswitch.offset_cons, if_neg (fun e => h0 (Int32.toInt_inj.mp (show w.toInt = (0 : Int32).toInt from e.symm))), Op.lookupswitch.offset_cons, if_neg (fun e => h8 (Int32.toInt_inj.mp (show w.toInt = (8 : Int32).toInt from e.symm))), Op.lookupswitch.offset_cons, if_neg (fun e => h9 (Int32.toInt_inj.mp (show w.toInt = (9 : Int32).toInt from e.symm))), Op.lookupswitch.offset_nil]; rfl) ?_)
        refine Exists.intro _ (And.intro ho (Exists.intro _ (And.intro f19 ?_)))
        refine And.intro (fun cz => absurd cz (by decide)) (fun _ => ?_)
        exact And.intro rfl hP
