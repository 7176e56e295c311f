/-! the model reads: its state, its small steps -/
/-- t, open, codes, signs; wanted, waiting, worst, worst's place -/
abbrev PZ : Type := (Nat × Nat × Nat × Nat) × (Nat × Nat × Nat × Int32)
def PRs (h : AH) (o : Nat) (fs : List Value) (s : PZ) : Prop := MA h o fs ∧ SHm h o ∧ fs[13]? = some (.int 0) ∧ fs[11]? = some (.int (nI s.1.1)) ∧ fs[12]? = some (.int (nI s.1.2.1)) ∧ fs[41]? = some (.int (nI s.1.2.2.1)) ∧ fs[43]? = some (.int (nI s.1.2.2.2)) ∧ fs[45]? = some (.int (nI s.2.1)) ∧ fs[49]? = some (.int (nI s.2.2.1)) ∧ fs[15]? = some (.int (nI s.2.2.2.1)) ∧ fs[16]? = some (.int s.2.2.2.2)
/-- a fault was found -/
def PFl (h : AH) (o : Nat) (fs : List Value) (f q : Nat) : Prop := MA h o fs ∧ SHm h o ∧ fs[13]? = some (.int (nI f)) ∧ fs[14]? = some (.int (nI q)) ∧ 0 < f ∧ f ≤ 5 ∧ ∃ t, t ≤ 400 ∧ fs[11]? = some (.int (nI t)) ∧ (∃ a, fs[12]? = some (.int a)) ∧ (∃ b, fs[49]? = some (.int b)) ∧ (∃ b, fs[41]? = some (.int b)) ∧ (∃ b, fs[43]? = some (.int b)) ∧ ∃ b, fs[16]? = some (.int b)
/-- the fields that reading leaves as they are -/
def pfF (fs0 fs : List Value) : Prop := ∀ k, k < 11 ∨ (16 < k ∧ k ≠ 41 ∧ k ≠ 43 ∧ k ≠ 45 ∧ k ≠ 49) → fs[k]? = fs0[k]?
theorem pfF.rf (fs : List Value) : pfF fs fs := fun _ _ => rfl
theorem pfF.tr {a b c : List Value} (x : pfF a b) (y : pfF b c) : pfF a c := fun k hk => (y k hk).trans (x k hk)
theorem pfF.st {a b : List Value} {k : Nat} {v : Value} (x : pfF a b) (hk : k = 11 ∨ k = 12 ∨ k = 13 ∨ k = 14 ∨ k = 15 ∨ k = 16 ∨ k = 41 ∨ k = 43 ∨ k = 45 ∨ k = 49) : pfF a (b.set k v) := fun j hj => (get_set_ne (by omega)).trans (x j hj)
theorem rfM_p : ∀ j, j < 63 → rfM j ≠ 11 ∧ rfM j ≠ 12 ∧ rfM j ≠ 13 ∧ rfM j ≠ 14 ∧ rfM j ≠ 15 ∧ rfM j ≠ 16 ∧ rfM j ≠ 41 ∧ rfM j ≠ 43 ∧ rfM j ≠ 45 ∧ rfM j ≠ 49 := by decide +kernel
theorem MA.pst {h : AH} {o k : Nat} {fs : List Value} {v : Value} (hM : MA h o fs) (hk : k = 11 ∨ k = 12 ∨ k = 13 ∨ k = 14 ∨ k = 15 ∨ k = 16 ∨ k = 41 ∨ k = 43 ∨ k = 45 ∨ k = 49) : MA (uph h o (.inr (12, fs.set k v))) o (fs.set k v) := ⟨uph_eq, by rw [List.length_set]; exact hM.2.1, fun j hj => by
  have := rfM_p j hj
  rw [get_set_ne (by omega)]
  exact hM.2.2 j hj⟩
theorem PRs.t {h : AH} {o t op cd sg wa wg wo t2 : Nat} {wp : Int32} {fs : List Value} (P : PRs h o fs ((t, op, cd, sg), (wa, wg, wo, wp))) : PRs (uph h o (.inr (12, fs.set 11 (.int (nI t2))))) o (fs.set 11 (.int (nI t2))) ((t2, op, cd, sg), (wa, wg, wo, wp)) := by
  obtain ⟨a, b, c13, c11, c12, c41, c43, c45, c49, c15, c16⟩ := P
  exact ⟨a.pst (by omega), b.obj, by rw [get_set_ne (by decide)]; exact c13, get_set (by rw [a.2.1]; decide), by rw [get_set_ne (by decide)]; exact c12, by rw [get_set_ne (by decide)]; exact c41, by rw [get_set_ne (by decide)]; exact c43, by rw [get_set_ne (by decide)]; exact c45, by rw [get_set_ne (by decide)]; exact c49, by rw [get_set_ne (by decide)]; exact c15, by rw [get_set_ne (by decide)]; exact c16⟩
theorem mkK_lt (k : Nat) (hk : k < 19) : mkK k < 28 := by
  have : ∀ k, k < 19 → mkK k < 28 := by decide
  exact this k hk
set_option maxHeartbeats 8000000 in
theorem m_is {l : Launch} {G : GG} {h : AH} {nx : Nat} {Post : Option Value → AH → Nat → Prop} {o k n m : Nat} {u : Nat → Nat} {fs : List Value} {s : PZ} (hX : XC G ∧ TX l G) (hP0 : PRs h o fs s) (hT : tokM h o u n m) (hu : ∀ i, u i < 256) (ht : s.1.1 < m) (hm : m ≤ 401) (hk : k < 100) (hP : Post (some (.int (nI (decide (mkK (kdN u n s.1.1) = k)).toNat))) h nx) : Runs l G i_X12_is 0 0 [.ref o, .int (nI k)] h nx Post := by
  obtain ⟨g2, g3, g4, g5, a2, a3, a4, a5, p⟩ := hT
  obtain ⟨hM, hS, c13, c11, _⟩ := hP0
  have hl := mkK_lt _ (kdN_lt hu n s.1.1)
  refine en_X12_is hX [] 40 rfl ?_
  refine Exists.intro _ (And.intro hM.1 (Exists.intro _ (And.intro c13 ?_)))
  refine And.intro (fun cz => by first | exact absurd cz (by decide) | exact absurd (by decide) cz) (fun _ => ?_)
  refine Exists.intro _ (And.intro hM.1 (Exists.intro _ (And.intro (hM.2.2 2 (by decide)) ?_)))
  refine Exists.intro _ (And.intro hM.1 (Exists.intro _ (And.intro c11 ?_)))
  refine Exists.intro _ (Exists.intro _ (And.intro a2 (And.intro (vp_in_nI (show s.1.1 < 403 by omega) (by decide)) ?_)))
  rw [nI_clamp (show s.1.1 < 2 ^ 31 by omega), (p _ ht).1]
  by_cases c : mkK (kdN u n s.1.1) = k
  · rw [decide_eq_true c] at hP
    refine And.intro (fun cz => absurd (show nI (mkK (kdN u n s.1.1)) = nI k from by rw [c]) cz) (fun _ => ?_)
    exact And.intro rfl (hP)
  · rw [decide_eq_false c] at hP
    refine And.intro (fun _ => ?_) (fun cz => absurd cz (fun z => c ((nI_eq (by omega) (by omega)).mp z)))
    exact And.intro rfl (hP)
set_option maxHeartbeats 8000000 in
theorem m_isF {l : Launch} {G : GG} {h : AH} {nx : Nat} {Post : Option Value → AH → Nat → Prop} {o f q : Nat} {k : Int32} {fs : List Value} (hX : XC G ∧ TX l G) (hF : PFl h o fs f q) (hP : Post (some (.int 0)) h nx) : Runs l G i_X12_is 0 0 [.ref o, .int k] h nx Post := by
  obtain ⟨hM, hS, c13, c14, f0, f5, _⟩ := hF
  refine en_X12_is hX [] 40 rfl ?_
  refine Exists.intro _ (And.intro hM.1 (Exists.intro _ (And.intro c13 ?_)))
  refine And.intro (fun _ => ?_) (fun cz => absurd cz (fun z => by have := (nI_eq (a := f) (b := 0) (by omega) (by omega)).mp z; omega))
  exact And.intro rfl (hP)
set_option maxHeartbeats 8000000 in
theorem m_fail {l : Launch} {G : GG} {h : AH} {nx : Nat} {Post : Option Value → AH → Nat → Prop} {o f n m : Nat} {u : Nat → Nat} {fs : List Value} {s : PZ} (hX : XC G ∧ TX l G) (hP0 : PRs h o fs s) (hT : tokM h o u n m) (ht : s.1.1 < m) (hm : m ≤ 401) (hf : 0 < f ∧ f ≤ 5) (hP : ∀ (h1 : AH) (fs1 : List Value), PFl h1 o fs1 f (plN u n s.1.1) → pfF fs fs1 → (∀ x, x ≠ o → h1 x = h x) → Post none h1 nx) : Runs l G i_X12_fail 0 0 [.ref o, .int (nI f)] h nx Post := by
  obtain ⟨g2, g3, g4, g5, a2, a3, a4, a5, p⟩ := hT
  obtain ⟨hM, hS, c13, c11, c12, c41, c43, c45, c49, c15, c16⟩ := hP0
  have hM1 : MA (uph h o (.inr (12, fs.set 13 (.int (nI f))))) o (fs.set 13 (.int (nI f))) := hM.pst (by omega)
  refine en_X12_fail hX [] 40 rfl ?_
  refine Exists.intro _ (And.intro hM.1 (Exists.intro _ (And.intro c13 ?_)))
  refine And.intro (fun _ => ?_) (fun cz => by first | exact absurd cz (by decide) | exact absurd (by decide) cz)
  refine Exists.intro _ (And.intro hM.1 (And.intro (by rw [hM.2.1]; decide) (And.intro rfl (And.intro rfl ?_))))
  refine Exists.intro _ (And.intro hM1.1 (Exists.intro _ (And.intro (hM1.2.2 3 (by decide)) ?_)))
  refine Exists.intro _ (And.intro hM1.1 (Exists.intro _ (And.intro ((get_set_ne (by decide)).trans c11) ?_)))
  refine Exists.intro _ (Exists.intro _ (And.intro ((uph_ne (by omega)).trans a3) (And.intro (vp_in_nI (show s.1.1 < 403 by omega) (by decide)) ?_)))
  rw [nI_clamp (show s.1.1 < 2 ^ 31 by omega), (p _ ht).2.1]
  refine Exists.intro _ (And.intro hM1.1 (And.intro (by rw [hM1.2.1]; decide) (And.intro rfl (And.intro rfl ?_))))
  refine hP _ ((fs.set 13 (.int (nI f))).set 14 (.int (nI (plN u n s.1.1)))) ⟨hM1.pst (by omega), hS.obj.obj, ?_, ?_, hf.1, hf.2, s.1.1, by omega, ?_, ⟨_, (get_set_ne (by decide)).trans ((get_set_ne (by decide)).trans c12)⟩, ⟨_, (get_set_ne (by decide)).trans ((get_set_ne (by decide)).trans c49)⟩, ⟨_, (get_set_ne (by decide)).trans ((get_set_ne (by decide)).trans c41)⟩, ⟨_, (get_set_ne (by decide)).trans ((get_set_ne (by decide)).trans c43)⟩, ⟨_, (get_set_ne (by decide)).trans ((get_set_ne (by decide)).trans c16)⟩⟩ (((pfF.rf fs).st (by omega)).st (by omega)) (fun x hx => (uph_ne hx).trans (uph_ne hx))
  · rw [get_set_ne (by decide)]
    exact get_set (by rw [hM.2.1]; decide)
  · exact get_set (by rw [hM1.2.1]; decide)
  · rw [get_set_ne (by decide), get_set_ne (by decide)]
    exact c11
set_option maxHeartbeats 8000000 in
theorem m_failF {l : Launch} {G : GG} {h : AH} {nx : Nat} {Post : Option Value → AH → Nat → Prop} {o f q : Nat} {k : Int32} {fs : List Value} (hX : XC G ∧ TX l G) (hF : PFl h o fs f q) (hP : Post none h nx) : Runs l G i_X12_fail 0 0 [.ref o, .int k] h nx Post := by
  obtain ⟨hM, hS, c13, c14, f0, f5, _⟩ := hF
  refine en_X12_fail hX [] 40 rfl ?_
  refine Exists.intro _ (And.intro hM.1 (Exists.intro _ (And.intro c13 ?_)))
  refine And.intro (fun cz => absurd cz (show ¬ nI f ≤ 0 from nI_ge (a := 0) f0 (by omega))) (fun _ => ?_)
  exact hP
set_option maxHeartbeats 8000000 in
theorem m_goesOn {l : Launch} {G : GG} {h : AH} {nx : Nat} {Post : Option Value → AH → Nat → Prop} {o n m t op cd sg wa wg wo : Nat} {wp : Int32} {u : Nat → Nat} {fs : List Value} (hX : XC G ∧ TX l G) (hP0 : PRs h o fs ((t, op, cd, sg), (wa, wg, wo, wp))) (hT : tokM h o u n m) (ht : t < m) (hm : m ≤ 401) (hF : t = 400 → ∀ (h1 : AH) (fs1 : List Value), PFl h1 o fs1 2 (plN u n t) → pfF fs fs1 → (∀ x, x ≠ o → h1 x = h x) → Post none h1 nx) (hP : t < 400 → ∀ (h1 : AH) (fs1 : List Value), PRs h1 o fs1 ((t + 1, op, cd, sg), (wa, wg, wo, wp)) → pfF fs fs1 → (∀ x, x ≠ o → h1 x = h x) → Post none h1 nx) : Runs l G i_X12_goesOn 0 0 [.ref o] h nx Post := by
  have hM := hP0.1
  have c11 : fs[11]? = some (.int (nI t)) := hP0.2.2.2.1
  refine en_X12_goesOn hX [] 40 rfl ?_
  refine Exists.intro _ (And.intro hM.1 (Exists.intro _ (And.intro c11 ?_)))
  by_cases c : t = 400
  · refine And.intro (fun cz => absurd (show nI t = 400 from by rw [c]; rfl) cz) (fun _ => ?_)
    refine Exists.intro _ (And.intro hM.1 (Exists.intro 0 (Exists.intro 0 (And.intro (Nat.le_refl _) (And.intro (Nat.le_refl _) (m_fail (f := 2) hX hP0 hT ht hm (by decide) (fun h1 fs1 z1 z2 z3 => ?_)))))))
    exact hF c h1 fs1 z1 z2 z3
  · refine And.intro (fun _ => ?_) (fun cz => absurd cz (fun z => c ((nI_eq (a := t) (b := 400) (by omega) (by omega)).mp z)))
    refine Exists.intro _ (And.intro hM.1 (Exists.intro _ (And.intro c11 ?_)))
    refine Exists.intro _ (And.intro hM.1 (And.intro (by rw [hM.2.1]; decide) (And.intro rfl (And.intro rfl ?_))))
    rw [show nI t + 1 = nI (t + 1) from (nI_succ t).symm]
    exact hP (by omega) _ _ hP0.t ((pfF.rf fs).st (by omega)) (fun x hx => uph_ne hx)
