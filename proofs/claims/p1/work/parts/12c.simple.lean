/-! small readers, on both sides -/
theorem c_place {l : Launch} {G : GG} {h : AH} {nx o : Nat} {v : Int32} {fs : List Value} {Post : Option Value → AH → Nat → Prop} (hX : XC G ∧ TX l G) (ho : h o = some (.inr (11, fs))) (f2 : fs[2]? = some (.int v)) (hP : Post (some (.int v)) h nx) : Runs l G i_X11_place 0 0 [.ref o] h nx Post := by
  refine en_X11_place hX [] 10 rfl ?_
  refine Exists.intro _ (And.intro ho (Exists.intro _ (And.intro f2 ?_)))
  exact And.intro rfl hP
theorem c_placeM {l : Launch} {G : GG} {h : AH} {nx o : Nat} {v : Int32} {fs : List Value} {Post : Option Value → AH → Nat → Prop} (hX : XC G ∧ TX l G) (ho : h o = some (.inr (12, fs))) (f2 : fs[17]? = some (.int v)) (hP : Post (some (.int v)) h nx) : Runs l G i_X12_place 0 0 [.ref o] h nx Post := by
  refine en_X12_place hX [] 10 rfl ?_
  refine Exists.intro _ (And.intro ho (Exists.intro _ (And.intro f2 ?_)))
  exact And.intro rfl hP
theorem c_in {l : Launch} {G : GG} {h : AH} {nx : Nat} {v a b : Int32} {Post : Option Value → AH → Nat → Prop} (hX : XC G ∧ TX l G) (hP : Post (some (.int (if a ≤ v ∧ v ≤ b then 1 else 0))) h nx) : Runs l G i_X12_in 0 0 [.int v, .int a, .int b] h nx Post := by
  refine en_X12_in hX [] 20 rfl ?_
  refine And.intro (fun c1 => ?_) (fun c1 => ?_)
  · rw [if_neg (fun z => absurd c1 (Int32.not_lt.mpr z.1))] at hP
    exact And.intro rfl hP
  · refine And.intro (fun c2 => ?_) (fun c2 => ?_)
    · rw [if_neg (fun z => absurd c2 (Int32.not_lt.mpr z.2))] at hP
      exact And.intro rfl hP
    · rw [if_pos ⟨Int32.not_lt.mp c1, Int32.not_lt.mp c2⟩] at hP
      exact And.intro rfl hP
theorem c_isDrawing {l : Launch} {G : GG} {h : AH} {nx o c : Nat} {d : Int32} {fs : List Value} {Post : Option Value → AH → Nat → Prop} (hX : XC G ∧ TX l G) (ho : h o = some (.inr (11, fs))) (f5 : fs[5]? = some (.int (nI c))) (hP : Post (some (.int (if 0 ≤ d ∧ d < nI c then 1 else 0))) h nx) : Runs l G i_X11_isDrawing 0 0 [.ref o, .int d] h nx Post := by
  refine en_X11_isDrawing hX [] 20 rfl ?_
  refine And.intro (fun c1 => ?_) (fun c1 => ?_)
  · rw [if_neg (fun z => absurd c1 (Int32.not_lt.mpr z.1))] at hP
    exact And.intro rfl hP
  · refine Exists.intro _ (And.intro ho (Exists.intro _ (And.intro f5 ?_)))
    refine And.intro (fun c2 => ?_) (fun c2 => ?_)
    · rw [if_neg (fun z => absurd z.2 (Int32.not_lt.mpr c2))] at hP
      exact And.intro rfl hP
    · rw [if_pos ⟨Int32.not_lt.mp c1, Int32.not_le.mp c2⟩] at hP
      exact And.intro rfl hP
theorem c_isDrawingM {l : Launch} {G : GG} {h : AH} {nx o c : Nat} {d : Int32} {fs : List Value} {Post : Option Value → AH → Nat → Prop} (hX : XC G ∧ TX l G) (ho : h o = some (.inr (12, fs))) (f5 : fs[18]? = some (.int (nI c))) (hP : Post (some (.int (if 0 ≤ d ∧ d ≤ nI c - 1 then 1 else 0))) h nx) : Runs l G i_X12_isDrawing 0 0 [.ref o, .int d] h nx Post := by
  refine en_X12_isDrawing hX [] 20 rfl ?_
  refine Exists.intro _ (And.intro ho (Exists.intro _ (And.intro f5 ?_)))
  refine Exists.intro 0 (Exists.intro 0 (And.intro (Nat.le_refl _) (And.intro (Nat.le_refl _) (c_in hX ?_))))
  refine And.intro ?_ hP
  split <;> rfl
/-- the drawing that has a number, else the blank one -/
def drOf (f : Nat → Option Nat) (bl c : Nat) (d : Int32) : Nat := if 0 ≤ d ∧ d < nI c then (f d.toNatClampNeg).getD 0 else bl
theorem c_drawingOf {l : Launch} {G : GG} {h : AH} {nx o c bl dq : Nat} {d : Int32} {f : Nat → Option Nat} {fs : List Value} {Post : Option Value → AH → Nat → Prop} (hX : XC G ∧ TX l G) (ho : h o = some (.inr (11, fs))) (f3 : fs[3]? = some (.ref bl)) (f4 : fs[4]? = some (.ref dq)) (f5 : fs[5]? = some (.int (nI c))) (hc : c ≤ 4) (hd : h dq = some (.inl (4, 4, .inr (.inr (.inr (.inr f)))))) (hf : ∀ i, i < c → ∃ r, f i = some r) (hP : Post (some (.ref (drOf f bl c d))) h nx) : Runs l G i_X11_drawingOf 0 0 [.ref o, .int d] h nx Post := by
  refine en_X11_drawingOf hX [] 30 rfl ?_
  refine Exists.intro _ (And.intro ho (Exists.intro 0 (Exists.intro 0 (And.intro (Nat.le_refl _) (And.intro (Nat.le_refl _) (c_isDrawing hX ho f5 ?_))))))
  unfold drOf at hP
  by_cases hin : 0 ≤ d ∧ d < nI c
  · rw [if_pos hin] at hP ⊢
    refine And.intro (fun c1 => absurd c1 (by decide)) (fun c1 => ?_)
    refine Exists.intro _ (And.intro ho (Exists.intro _ (And.intro f4 ?_)))
    obtain ⟨j, hj, e⟩ := nI_of (Int32.not_lt.mpr hin.1)
    have hjc : j < c := (nI_ltI hj (by omega)).mp (e ▸ hin.2)
    subst e
    obtain ⟨r, hr⟩ := hf j hjc
    refine Exists.intro _ (Exists.intro _ (And.intro hd (And.intro (vp_in_nI (by omega) (by omega)) ?_)))
    rw [nI_clamp hj] at hP ⊢
    rw [hr] at hP ⊢
    exact hP
  · rw [if_neg hin] at hP ⊢
    refine And.intro (fun c1 => ?_) (fun c1 => absurd rfl c1)
    refine Exists.intro _ (And.intro ho (Exists.intro _ (And.intro f3 ?_)))
    exact hP
theorem c_current {l : Launch} {G : GG} {h : AH} {nx o c bl dq : Nat} {d : Int32} {f : Nat → Option Nat} {fs : List Value} {Post : Option Value → AH → Nat → Prop} (hX : XC G ∧ TX l G) (ho : h o = some (.inr (11, fs))) (f3 : fs[3]? = some (.ref bl)) (f4 : fs[4]? = some (.ref dq)) (f5 : fs[5]? = some (.int (nI c))) (f6 : fs[6]? = some (.int d)) (hc : c ≤ 4) (hd : h dq = some (.inl (4, 4, .inr (.inr (.inr (.inr f)))))) (hf : ∀ i, i < c → ∃ r, f i = some r) (hP : Post (some (.ref (drOf f bl c d))) h nx) : Runs l G i_X11_current 0 0 [.ref o] h nx Post := by
  refine en_X11_current hX [] 20 rfl ?_
  refine Exists.intro _ (And.intro ho (Exists.intro _ (And.intro f6 ?_)))
  refine Exists.intro _ (And.intro ho (Exists.intro 0 (Exists.intro 0 (And.intro (Nat.le_refl _) (And.intro (Nat.le_refl _) (c_drawingOf hX ho f3 f4 f5 hc hd hf ?_))))))
  exact hP
