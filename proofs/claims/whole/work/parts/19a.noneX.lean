/-! x without a drawing at hand: its calls -/
def ND (h : AH) (o : Nat) (fs fb fi fw fl fv ft : List Value) (bl dq bi ba hw lb sv tr : Nat) (df : Nat → Option Nat) (g : Nat → Int32) (z tl : Int32) : Prop :=
  h o = some (.inr (11, fs)) ∧ fs[1]? = some (.int tl) ∧ fs[3]? = some (.ref bl) ∧ fs[4]? = some (.ref dq) ∧ fs[5]? = some (.int (nI 0)) ∧ fs[6]? = some (.int (-1)) ∧ fs[9]? = some (.ref sv) ∧ fs[10]? = some (.ref tr) ∧ fs[12]? = some (.ref lb) ∧ fs[13]? = some (.ref hw) ∧ h dq = some (.inl (4, 4, .inr (.inr (.inr (.inr df))))) ∧ h bl = some (.inr (0, fb)) ∧ fb[0]? = some (.int 0) ∧ fb[1]? = some (.int 0) ∧ fb[3]? = some (.int 0) ∧ fb[14]? = some (.int 0) ∧ fb[17]? = some (.ref bi) ∧ h bi = some (.inr (1, fi)) ∧ fi.length = 7 ∧ fi[0]? = some (.ref ba) ∧ fi[6]? = some (.int z) ∧ (z = -1 ∨ z = 0) ∧ h ba = some (.inl (2, 132, .inl g)) ∧ h hw = some (.inr (2, fw)) ∧ fw[0]? = some (.ref bl) ∧ fw[4]? = some (.int 0) ∧ h lb = some (.inr (4, fl)) ∧ fl[5]? = some (.int 0) ∧ h sv = some (.inr (7, fv)) ∧ h tr = some (.inr (9, ft))
theorem set_same : ∀ {fs : List Value} {k : Nat} {v : Value}, fs[k]? = some v → fs.set k v = fs
  | [], _, _, h => by cases h
  | a :: r, 0, v, h => by cases h; rfl
  | a :: r, k + 1, v, h => congrArg (a :: ·) (set_same (fs := r) (k := k) h)
theorem no_in {k : Int32} : ¬ (0 ≤ k ∧ k ≤ (-1 : Int32)) := fun z => absurd (Int32.le_trans z.1 z.2) (by decide)
theorem z_flawAt {l : Launch} {G : GG} {h : AH} {nx : Nat} {Post : Option Value → AH → Nat → Prop} {d : Nat} {i : Int32} {fb : List Value} (hX : XC G ∧ TX l G) (hb : h d = some (.inr (0, fb))) (b14 : fb[14]? = some (.int 0)) (hP : Post (some (.int (-1))) h nx) : Runs l G i_X0_flawAt 0 0 [.ref d, .int i] h nx Post := by
  refine en_X0_flawAt hX [] 60 rfl ?_
  refine And.intro (fun c1 => ?_) (fun c1 => ?_)
  · exact And.intro rfl hP
  · refine Exists.intro _ (And.intro hb (Exists.intro _ (And.intro b14 ?_)))
    refine And.intro (fun c2 => ?_) (fun c2 => absurd (Int32.not_lt.mp c1) c2)
    exact And.intro rfl hP
theorem z_flawIndex {l : Launch} {G : GG} {h : AH} {nx : Nat} {Post : Option Value → AH → Nat → Prop} {d : Nat} {i : Int32} {fb : List Value} (hX : XC G ∧ TX l G) (hb : h d = some (.inr (0, fb))) (b14 : fb[14]? = some (.int 0)) (hP : Post (some (.int (-1))) h nx) : Runs l G i_X0_flawIndex 0 0 [.ref d, .int i] h nx Post := by
  refine en_X0_flawIndex hX [] 60 rfl ?_
  refine Exists.intro _ (And.intro hb (Exists.intro _ (And.intro b14 ?_)))
  refine And.intro (fun _ => ?_) (fun cz => absurd (by decide) cz)
  exact And.intro rfl hP
theorem z_countBad {l : Launch} {G : GG} {h : AH} {nx : Nat} {Post : Option Value → AH → Nat → Prop} {sv d bi ba : Nat} {fb fi : List Value} (hX : XC G ∧ TX l G) (hb : h d = some (.inr (0, fb))) (b14 : fb[14]? = some (.int 0)) (b17 : fb[17]? = some (.ref bi)) (hi : h bi = some (.inr (1, fi))) (i0 : fi[0]? = some (.ref ba)) (hP : Post (some (.int 0)) h nx) : Runs l G i_X7_countBad 0 0 [.ref sv, .ref d] h nx Post := by
  refine en_X7_countBad hX [] 60 rfl ?_
  refine Exists.intro _ (And.intro hb (Exists.intro _ (And.intro b17 ?_)))
  refine Exists.intro _ (And.intro hi (Exists.intro _ (And.intro i0 ?_)))
  refine Exists.intro _ (And.intro hb (Exists.intro _ (And.intro b14 ?_)))
  refine And.intro (fun _ => ?_) (fun cz => absurd (by decide) cz)
  exact And.intro rfl hP
theorem z_countHidden {l : Launch} {G : GG} {h : AH} {nx : Nat} {Post : Option Value → AH → Nat → Prop} {tr d : Nat} {fb : List Value} (hX : XC G ∧ TX l G) (hb : h d = some (.inr (0, fb))) (b14 : fb[14]? = some (.int 0)) (hP : Post (some (.int 0)) h nx) : Runs l G i_X9_countHidden 0 0 [.ref tr, .ref d] h nx Post := by
  refine en_X9_countHidden hX [] 60 rfl ?_
  refine Exists.intro _ (And.intro hb (Exists.intro _ (And.intro b14 ?_)))
  refine And.intro (fun _ => ?_) (fun cz => absurd (by decide) cz)
  exact And.intro rfl hP
theorem z_makeSuite {l : Launch} {G : GG} {h : AH} {nx : Nat} {Post : Option Value → AH → Nat → Prop} {tr d bi : Nat} {fb fi : List Value} {z : Int32} (hX : XC G ∧ TX l G) (hb : h d = some (.inr (0, fb))) (b14 : fb[14]? = some (.int 0)) (b17 : fb[17]? = some (.ref bi)) (hi : h bi = some (.inr (1, fi))) (il : fi.length = 7) (i6 : fi[6]? = some (.int z)) (hz : z = -1 ∨ z = 0) (hP : Post none (uph h bi (.inr (1, fi.set 6 (.int 0)))) nx) : Runs l G i_X9_makeSuite 0 0 [.ref tr, .ref d] h nx Post := by
  refine en_X9_makeSuite hX [] 80 rfl ?_
  have hne : d ≠ bi := fun e => by rw [e, hi] at hb; cases hb
  refine Exists.intro _ (And.intro hb (Exists.intro _ (And.intro b17 ?_)))
  refine Exists.intro _ (And.intro hi (Exists.intro _ (And.intro i6 ?_)))
  rcases hz with rfl | rfl
  · refine And.intro (fun _ => ?_) (fun cz => absurd (by decide) cz)
    refine Exists.intro _ (And.intro hi (And.intro (by omega) (And.intro rfl (And.intro rfl ?_))))
    refine Exists.intro _ (And.intro (by rw [uph_ne hne]; exact hb) (Exists.intro _ (And.intro b14 ?_)))
    refine And.intro (fun _ => ?_) (fun cz => absurd (by decide) cz)
    exact hP
  · refine And.intro (fun cz => absurd cz (by decide)) (fun _ => ?_)
    rw [set_same i6, uph_self hi] at hP
    exact hP
theorem z_suiteTest {l : Launch} {G : GG} {h : AH} {nx : Nat} {Post : Option Value → AH → Nat → Prop} {bi : Nat} {k : Int32} {fi : List Value} (hX : XC G ∧ TX l G) (hi : h bi = some (.inr (1, fi))) (i6 : fi[6]? = some (.int 0)) (hP : Post (some (.long (-1))) h nx) : Runs l G i_X1_suiteTest 0 0 [.ref bi, .int k] h nx Post := by
  refine en_X1_suiteTest hX [] 60 rfl ?_
  refine And.intro (fun c1 => ?_) (fun c1 => ?_)
  · exact hP
  · refine Exists.intro _ (And.intro hi (Exists.intro _ (And.intro i6 ?_)))
    refine And.intro (fun c2 => ?_) (fun c2 => absurd (Int32.not_lt.mp c1) c2)
    exact hP
theorem z_actsOf {l : Launch} {G : GG} {h : AH} {nx : Nat} {Post : Option Value → AH → Nat → Prop}  (hX : XC G ∧ TX l G)  (hP : Post (some (.int 0)) h nx) : Runs l G i_X9_actsOf 0 0 [.long (-1)] h nx Post := by
  refine en_X9_actsOf hX [] 60 rfl ?_
  refine And.intro (fun cz => absurd cz (by decide)) (fun _ => ?_)
  exact And.intro rfl hP
theorem z_actAt {l : Launch} {G : GG} {h : AH} {nx : Nat} {Post : Option Value → AH → Nat → Prop} {i : Int32} (hX : XC G ∧ TX l G)  (hP : Post (some (.int (-1))) h nx) : Runs l G i_X9_actAt 0 0 [.long (-1), .int i] h nx Post := by
  refine en_X9_actAt hX [] 60 rfl ?_
  refine And.intro (fun c1 => ?_) (fun c1 => ?_)
  · exact And.intro rfl hP
  · refine Exists.intro 0 (Exists.intro 0 (And.intro (Nat.le_refl _) (And.intro (Nat.le_refl _) (z_actsOf hX ?_))))
    refine And.intro (fun c2 => absurd c2 c1) (fun _ => ?_)
    exact And.intro rfl hP
theorem z_writeVoid {l : Launch} {G : GG} {h : AH} {nx : Nat} {Post : Option Value → AH → Nat → Prop} {lb : Nat} {k : Int32} {fl : List Value} (hX : XC G ∧ TX l G) (hlb : h lb = some (.inr (4, fl))) (l5 : fl[5]? = some (.int 0)) (hP : Post (some (.int (-1))) h nx) : Runs l G i_X4_writeVoid 0 0 [.ref lb, .int k] h nx Post := by
  refine en_X4_writeVoid hX [] 60 rfl ?_
  refine Exists.intro _ (And.intro hlb (Exists.intro _ (And.intro l5 ?_)))
  refine And.intro (fun cz => absurd cz (by decide)) (fun _ => ?_)
  refine And.intro (fun c1 => ?_) (fun c1 => ?_)
  · exact And.intro rfl hP
  · refine Exists.intro _ (And.intro hlb (Exists.intro _ (And.intro l5 ?_)))
    refine And.intro (fun c2 => ?_) (fun c2 => absurd (Int32.not_lt.mp c1) c2)
    exact And.intro rfl hP
theorem z_entryCount {l : Launch} {G : GG} {h : AH} {nx : Nat} {Post : Option Value → AH → Nat → Prop} {lb : Nat} {v : Int32} {fl : List Value} (hX : XC G ∧ TX l G) (hlb : h lb = some (.inr (4, fl))) (l5 : fl[5]? = some (.int v)) (hP : Post (some (.int v)) h nx) : Runs l G i_X4_entryCount 0 0 [.ref lb] h nx Post := by
  refine en_X4_entryCount hX [] 60 rfl ?_
  refine Exists.intro _ (And.intro hlb (Exists.intro _ (And.intro l5 ?_)))
  exact And.intro rfl hP
theorem z_setInput {l : Launch} {G : GG} {h : AH} {nx : Nat} {Post : Option Value → AH → Nat → Prop} {hw d : Nat} {k on : Int32} {fw fb : List Value} (hX : XC G ∧ TX l G) (hwk : h hw = some (.inr (2, fw))) (w0 : fw[0]? = some (.ref d)) (hb : h d = some (.inr (0, fb))) (b0 : fb[0]? = some (.int 0)) (hP : Post (some (.int 0)) h nx) : Runs l G i_X2_setInput 0 0 [.ref hw, .int k, .int on] h nx Post := by
  refine en_X2_setInput hX [] 60 rfl ?_
  refine And.intro (fun c1 => ?_) (fun c1 => ?_)
  · exact And.intro rfl hP
  · refine Exists.intro _ (And.intro hwk (Exists.intro _ (And.intro w0 ?_)))
    refine Exists.intro _ (And.intro hb (Exists.intro _ (And.intro b0 ?_)))
    refine And.intro (fun c2 => absurd c2 c1) (fun _ => ?_)
    exact And.intro rfl hP
theorem z_layStrap {l : Launch} {G : GG} {h : AH} {nx : Nat} {Post : Option Value → AH → Nat → Prop} {hw d : Nat} {k on : Int32} {fw fb : List Value} (hX : XC G ∧ TX l G) (hwk : h hw = some (.inr (2, fw))) (w0 : fw[0]? = some (.ref d)) (hb : h d = some (.inr (0, fb))) (b3 : fb[3]? = some (.int 0)) (hP : Post (some (.int 0)) h nx) : Runs l G i_X2_layStrap 0 0 [.ref hw, .int k, .int on] h nx Post := by
  refine en_X2_layStrap hX [] 60 rfl ?_
  refine And.intro (fun c1 => ?_) (fun c1 => ?_)
  · exact And.intro rfl hP
  · refine Exists.intro _ (And.intro hwk (Exists.intro _ (And.intro w0 ?_)))
    refine Exists.intro _ (And.intro hb (Exists.intro _ (And.intro b3 ?_)))
    refine And.intro (fun c2 => absurd c2 c1) (fun _ => ?_)
    exact And.intro rfl hP
theorem z_setAge {l : Launch} {G : GG} {h : AH} {nx : Nat} {Post : Option Value → AH → Nat → Prop} {hw d : Nat} {k v : Int32} {fw fb : List Value} (hX : XC G ∧ TX l G) (hwk : h hw = some (.inr (2, fw))) (w0 : fw[0]? = some (.ref d)) (hb : h d = some (.inr (0, fb))) (b1 : fb[1]? = some (.int 0)) (hP : Post (some (.int 0)) h nx) : Runs l G i_X2_setAge 0 0 [.ref hw, .int k, .int v] h nx Post := by
  refine en_X2_setAge hX [] 60 rfl ?_
  refine And.intro (fun c1 => ?_) (fun c1 => ?_)
  · exact And.intro rfl hP
  · refine Exists.intro _ (And.intro hwk (Exists.intro _ (And.intro w0 ?_)))
    refine Exists.intro _ (And.intro hb (Exists.intro _ (And.intro b1 ?_)))
    refine And.intro (fun c2 => ?_) (fun c2 => absurd (Int32.not_lt.mp c1) c2)
    exact And.intro rfl hP
theorem z_hasClashed {l : Launch} {G : GG} {h : AH} {nx : Nat} {Post : Option Value → AH → Nat → Prop} {hw : Nat} {fw : List Value} (hX : XC G ∧ TX l G) (hwk : h hw = some (.inr (2, fw))) (w4 : fw[4]? = some (.int 0)) (hP : Post (some (.int 0)) h nx) : Runs l G i_X2_hasClashed 0 0 [.ref hw] h nx Post := by
  refine en_X2_hasClashed hX [] 60 rfl ?_
  refine Exists.intro _ (And.intro hwk (Exists.intro _ (And.intro w4 ?_)))
  exact And.intro rfl hP
theorem nd_current {l : Launch} {G : GG} {h : AH} {nx : Nat} {Post : Option Value → AH → Nat → Prop} {o bl dq bi ba hw lb sv tr : Nat} {fs fb fi fw fl fv ft : List Value} {df : Nat → Option Nat} {g : Nat → Int32} {z tl : Int32}  (hX : XC G ∧ TX l G) (hN : ND h o fs fb fi fw fl fv ft bl dq bi ba hw lb sv tr df g z tl) (hP : Post (some (.ref bl)) h nx) : Runs l G i_X11_current 0 0 [.ref o] h nx Post := by
  obtain ⟨ho, f1, f3, f4, f5, f6, f9, f10, f12, f13, hd, hb, b0, b1, b3, b14, b17, hi, il, i0, i6, hz, ha, hwk, w0, w4, hlb, l5, hsv, htr⟩ := id hN
  refine c_current (c := 0) hX ho f3 f4 f5 f6 (by decide) hd (fun i hi => absurd hi (Nat.not_lt_zero i)) ?_
  rw [show drOf df bl 0 (-1) = bl from if_neg (by decide)]
  exact hP
theorem nd_isDrawing {l : Launch} {G : GG} {h : AH} {nx : Nat} {Post : Option Value → AH → Nat → Prop} {o bl dq bi ba hw lb sv tr : Nat} {fs fb fi fw fl fv ft : List Value} {df : Nat → Option Nat} {g : Nat → Int32} {z tl : Int32} {d : Int32} (hX : XC G ∧ TX l G) (hN : ND h o fs fb fi fw fl fv ft bl dq bi ba hw lb sv tr df g z tl) (hP : Post (some (.int 0)) h nx) : Runs l G i_X11_isDrawing 0 0 [.ref o, .int d] h nx Post := by
  obtain ⟨ho, f1, f3, f4, f5, f6, f9, f10, f12, f13, hd, hb, b0, b1, b3, b14, b17, hi, il, i0, i6, hz, ha, hwk, w0, w4, hlb, l5, hsv, htr⟩ := id hN
  refine c_isDrawing (c := 0) hX ho f5 ?_
  rw [if_neg (fun zz => absurd (Int32.lt_of_le_of_lt zz.1 zz.2) (by decide))]
  exact hP
theorem nd_takeHut {l : Launch} {G : GG} {h : AH} {nx : Nat} {Post : Option Value → AH → Nat → Prop} {o bl dq bi ba hw lb sv tr : Nat} {fs fb fi fw fl fv ft : List Value} {df : Nat → Option Nat} {g : Nat → Int32} {z tl : Int32} {f1 g1 : Int32} (hX : XC G ∧ TX l G) (hN : ND h o fs fb fi fw fl fv ft bl dq bi ba hw lb sv tr df g z tl) (hP : Post (some (.int 0)) h nx) : Runs l G i_X11_takeHut 0 0 [.ref o, .int f1, .int g1] h nx Post := by
  refine en_X11_takeHut hX [] 60 rfl ?_
  obtain ⟨ho, f1, f3, f4, f5, f6, f9, f10, f12, f13, hd, hb, b0, b1, b3, b14, b17, hi, il, i0, i6, hz, ha, hwk, w0, w4, hlb, l5, hsv, htr⟩ := id hN
  refine Exists.intro _ (And.intro ho (Exists.intro 0 (Exists.intro 0 (And.intro (Nat.le_refl _) (And.intro (Nat.le_refl _) (nd_current hX hN ?_))))))
  refine Exists.intro _ (And.intro ho (Exists.intro _ (And.intro f6 ?_)))
  refine And.intro (fun _ => ?_) (fun cz => absurd (by decide) cz)
  refine And.intro (fun _ => ?_) (fun cz => absurd (by decide) cz)
  exact And.intro rfl hP
theorem nd_contact {l : Launch} {G : GG} {h : AH} {nx : Nat} {Post : Option Value → AH → Nat → Prop} {o bl dq bi ba hw lb sv tr : Nat} {fs fb fi fw fl fv ft : List Value} {df : Nat → Option Nat} {g : Nat → Int32} {z tl : Int32} {k what : Int32} (hX : XC G ∧ TX l G) (hN : ND h o fs fb fi fw fl fv ft bl dq bi ba hw lb sv tr df g z tl) (hP : Post (some (.int (-1))) h nx) : Runs l G i_X11_contact 0 0 [.ref o, .int k, .int what] h nx Post := by
  refine en_X11_contact hX [] 60 rfl ?_
  obtain ⟨ho, f1, f3, f4, f5, f6, f9, f10, f12, f13, hd, hb, b0, b1, b3, b14, b17, hi, il, i0, i6, hz, ha, hwk, w0, w4, hlb, l5, hsv, htr⟩ := id hN
  refine Exists.intro _ (And.intro ho (Exists.intro 0 (Exists.intro 0 (And.intro (Nat.le_refl _) (And.intro (Nat.le_refl _) (nd_current hX hN ?_))))))
  refine And.intro (fun c1 => ?_) (fun c1 => ?_)
  · exact And.intro rfl hP
  · refine Exists.intro _ (And.intro hb (Exists.intro _ (And.intro b3 ?_)))
    refine And.intro (fun c2 => ?_) (fun c2 => absurd (Int32.not_lt.mp c1) c2)
    exact And.intro rfl hP
theorem nd_flaw {l : Launch} {G : GG} {h : AH} {nx : Nat} {Post : Option Value → AH → Nat → Prop} {o bl dq bi ba hw lb sv tr : Nat} {fs fb fi fw fl fv ft : List Value} {df : Nat → Option Nat} {g : Nat → Int32} {z tl : Int32} {i : Int32} (hX : XC G ∧ TX l G) (hN : ND h o fs fb fi fw fl fv ft bl dq bi ba hw lb sv tr df g z tl) (hP : Post (some (.int (-1))) h nx) : Runs l G i_X11_flaw 0 0 [.ref o, .int i] h nx Post := by
  refine en_X11_flaw hX [] 60 rfl ?_
  obtain ⟨ho, f1, f3, f4, f5, f6, f9, f10, f12, f13, hd, hb, b0, b1, b3, b14, b17, hi, il, i0, i6, hz, ha, hwk, w0, w4, hlb, l5, hsv, htr⟩ := id hN
  refine Exists.intro _ (And.intro ho (Exists.intro 0 (Exists.intro 0 (And.intro (Nat.le_refl _) (And.intro (Nat.le_refl _) (nd_current hX hN ?_))))))
  refine Exists.intro _ (And.intro hb (Exists.intro 0 (Exists.intro 0 (And.intro (Nat.le_refl _) (And.intro (Nat.le_refl _) (z_flawAt hX hb b14 ?_))))))
  exact And.intro rfl hP
theorem nd_settles {l : Launch} {G : GG} {h : AH} {nx : Nat} {Post : Option Value → AH → Nat → Prop} {o bl dq bi ba hw lb sv tr : Nat} {fs fb fi fw fl fv ft : List Value} {df : Nat → Option Nat} {g : Nat → Int32} {z tl : Int32} {f2 g2 u1 u2 : Int32} (hX : XC G ∧ TX l G) (hN : ND h o fs fb fi fw fl fv ft bl dq bi ba hw lb sv tr df g z tl) (hP : Post (some (.int (-1))) h nx) : Runs l G i_X11_settles 0 0 [.ref o, .int f2, .int g2, .int u1, .int u2] h nx Post := by
  refine en_X11_settles hX [] 60 rfl ?_
  obtain ⟨ho, f1, f3, f4, f5, f6, f9, f10, f12, f13, hd, hb, b0, b1, b3, b14, b17, hi, il, i0, i6, hz, ha, hwk, w0, w4, hlb, l5, hsv, htr⟩ := id hN
  refine Exists.intro _ (And.intro ho (Exists.intro 0 (Exists.intro 0 (And.intro (Nat.le_refl _) (And.intro (Nat.le_refl _) (nd_takeHut hX hN ?_))))))
  refine And.intro (fun _ => ?_) (fun cz => absurd (by decide) cz)
  exact And.intro rfl hP
theorem nd_shows {l : Launch} {G : GG} {h : AH} {nx : Nat} {Post : Option Value → AH → Nat → Prop} {o bl dq bi ba hw lb sv tr : Nat} {fs fb fi fw fl fv ft : List Value} {df : Nat → Option Nat} {g : Nat → Int32} {z tl : Int32} {f2 g2 u1 u2 : Int32} (hX : XC G ∧ TX l G) (hN : ND h o fs fb fi fw fl fv ft bl dq bi ba hw lb sv tr df g z tl) (hP : Post (some (.int (-1))) h nx) : Runs l G i_X11_shows 0 0 [.ref o, .int f2, .int g2, .int u1, .int u2] h nx Post := by
  refine en_X11_shows hX [] 60 rfl ?_
  obtain ⟨ho, f1, f3, f4, f5, f6, f9, f10, f12, f13, hd, hb, b0, b1, b3, b14, b17, hi, il, i0, i6, hz, ha, hwk, w0, w4, hlb, l5, hsv, htr⟩ := id hN
  refine Exists.intro _ (And.intro ho (Exists.intro 0 (Exists.intro 0 (And.intro (Nat.le_refl _) (And.intro (Nat.le_refl _) (nd_takeHut hX hN ?_))))))
  refine And.intro (fun _ => ?_) (fun cz => absurd (by decide) cz)
  exact And.intro rfl hP
theorem nd_start {l : Launch} {G : GG} {h : AH} {nx : Nat} {Post : Option Value → AH → Nat → Prop} {o bl dq bi ba hw lb sv tr : Nat} {fs fb fi fw fl fv ft : List Value} {df : Nat → Option Nat} {g : Nat → Int32} {z tl : Int32} {f2 g2 : Int32} (hX : XC G ∧ TX l G) (hN : ND h o fs fb fi fw fl fv ft bl dq bi ba hw lb sv tr df g z tl) (hP : Post (some (.int (-1))) h nx) : Runs l G i_X11_start 0 0 [.ref o, .int f2, .int g2] h nx Post := by
  refine en_X11_start hX [] 60 rfl ?_
  obtain ⟨ho, f1, f3, f4, f5, f6, f9, f10, f12, f13, hd, hb, b0, b1, b3, b14, b17, hi, il, i0, i6, hz, ha, hwk, w0, w4, hlb, l5, hsv, htr⟩ := id hN
  refine Exists.intro _ (And.intro ho (Exists.intro 0 (Exists.intro 0 (And.intro (Nat.le_refl _) (And.intro (Nat.le_refl _) (nd_takeHut hX hN ?_))))))
  refine And.intro (fun _ => ?_) (fun cz => absurd (by decide) cz)
  exact And.intro rfl hP
theorem nd_reached {l : Launch} {G : GG} {h : AH} {nx : Nat} {Post : Option Value → AH → Nat → Prop} {o bl dq bi ba hw lb sv tr : Nat} {fs fb fi fw fl fv ft : List Value} {df : Nat → Option Nat} {g : Nat → Int32} {z tl : Int32} {f2 g2 : Int32} (hX : XC G ∧ TX l G) (hN : ND h o fs fb fi fw fl fv ft bl dq bi ba hw lb sv tr df g z tl) (hP : Post (some (.int (-1))) h nx) : Runs l G i_X11_reached 0 0 [.ref o, .int f2, .int g2] h nx Post := by
  refine en_X11_reached hX [] 60 rfl ?_
  obtain ⟨ho, f1, f3, f4, f5, f6, f9, f10, f12, f13, hd, hb, b0, b1, b3, b14, b17, hi, il, i0, i6, hz, ha, hwk, w0, w4, hlb, l5, hsv, htr⟩ := id hN
  refine Exists.intro _ (And.intro ho (Exists.intro 0 (Exists.intro 0 (And.intro (Nat.le_refl _) (And.intro (Nat.le_refl _) (nd_takeHut hX hN ?_))))))
  refine And.intro (fun cz => absurd cz (by decide)) (fun _ => ?_)
  exact And.intro rfl hP
theorem nd_races {l : Launch} {G : GG} {h : AH} {nx : Nat} {Post : Option Value → AH → Nat → Prop} {o bl dq bi ba hw lb sv tr : Nat} {fs fb fi fw fl fv ft : List Value} {df : Nat → Option Nat} {g : Nat → Int32} {z tl : Int32} {f2 g2 : Int32} (hX : XC G ∧ TX l G) (hN : ND h o fs fb fi fw fl fv ft bl dq bi ba hw lb sv tr df g z tl) (hP : Post (some (.int (-1))) h nx) : Runs l G i_X11_races 0 0 [.ref o, .int f2, .int g2] h nx Post := by
  refine en_X11_races hX [] 60 rfl ?_
  obtain ⟨ho, f1, f3, f4, f5, f6, f9, f10, f12, f13, hd, hb, b0, b1, b3, b14, b17, hi, il, i0, i6, hz, ha, hwk, w0, w4, hlb, l5, hsv, htr⟩ := id hN
  refine Exists.intro _ (And.intro ho (Exists.intro 0 (Exists.intro 0 (And.intro (Nat.le_refl _) (And.intro (Nat.le_refl _) (nd_takeHut hX hN ?_))))))
  refine And.intro (fun cz => absurd cz (by decide)) (fun _ => ?_)
  exact And.intro rfl hP
theorem nd_bad {l : Launch} {G : GG} {h : AH} {nx : Nat} {Post : Option Value → AH → Nat → Prop} {o bl dq bi ba hw lb sv tr : Nat} {fs fb fi fw fl fv ft : List Value} {df : Nat → Option Nat} {g : Nat → Int32} {z tl : Int32} {f2 g2 : Int32} (hX : XC G ∧ TX l G) (hN : ND h o fs fb fi fw fl fv ft bl dq bi ba hw lb sv tr df g z tl) (hP : Post (some (.int (-1))) h nx) : Runs l G i_X11_bad 0 0 [.ref o, .int f2, .int g2] h nx Post := by
  refine en_X11_bad hX [] 60 rfl ?_
  obtain ⟨ho, f1, f3, f4, f5, f6, f9, f10, f12, f13, hd, hb, b0, b1, b3, b14, b17, hi, il, i0, i6, hz, ha, hwk, w0, w4, hlb, l5, hsv, htr⟩ := id hN
  refine Exists.intro _ (And.intro ho (Exists.intro 0 (Exists.intro 0 (And.intro (Nat.le_refl _) (And.intro (Nat.le_refl _) (nd_takeHut hX hN ?_))))))
  refine And.intro (fun cz => absurd cz (by decide)) (fun _ => ?_)
  exact And.intro rfl hP
theorem nd_badAct {l : Launch} {G : GG} {h : AH} {nx : Nat} {Post : Option Value → AH → Nat → Prop} {o bl dq bi ba hw lb sv tr : Nat} {fs fb fi fw fl fv ft : List Value} {df : Nat → Option Nat} {g : Nat → Int32} {z tl : Int32} {f2 g2 i : Int32} (hX : XC G ∧ TX l G) (hN : ND h o fs fb fi fw fl fv ft bl dq bi ba hw lb sv tr df g z tl) (hP : Post (some (.int (-1))) h nx) : Runs l G i_X11_badAct 0 0 [.ref o, .int f2, .int g2, .int i] h nx Post := by
  refine en_X11_badAct hX [] 60 rfl ?_
  obtain ⟨ho, f1, f3, f4, f5, f6, f9, f10, f12, f13, hd, hb, b0, b1, b3, b14, b17, hi, il, i0, i6, hz, ha, hwk, w0, w4, hlb, l5, hsv, htr⟩ := id hN
  refine Exists.intro _ (And.intro ho (Exists.intro 0 (Exists.intro 0 (And.intro (Nat.le_refl _) (And.intro (Nat.le_refl _) (nd_takeHut hX hN ?_))))))
  refine And.intro (fun cz => absurd cz (by decide)) (fun _ => ?_)
  exact And.intro rfl hP
theorem nd_singles {l : Launch} {G : GG} {h : AH} {nx : Nat} {Post : Option Value → AH → Nat → Prop} {o bl dq bi ba hw lb sv tr : Nat} {fs fb fi fw fl fv ft : List Value} {df : Nat → Option Nat} {g : Nat → Int32} {z tl : Int32}  (hX : XC G ∧ TX l G) (hN : ND h o fs fb fi fw fl fv ft bl dq bi ba hw lb sv tr df g z tl) (hP : Post (some (.int 0)) h nx) : Runs l G i_X11_singles 0 0 [.ref o] h nx Post := by
  refine en_X11_singles hX [] 60 rfl ?_
  obtain ⟨ho, f1, f3, f4, f5, f6, f9, f10, f12, f13, hd, hb, b0, b1, b3, b14, b17, hi, il, i0, i6, hz, ha, hwk, w0, w4, hlb, l5, hsv, htr⟩ := id hN
  refine Exists.intro _ (And.intro ho (Exists.intro _ (And.intro f9 ?_)))
  refine Exists.intro _ (And.intro ho (Exists.intro 0 (Exists.intro 0 (And.intro (Nat.le_refl _) (And.intro (Nat.le_refl _) (nd_current hX hN ?_))))))
  refine Exists.intro _ (And.intro hsv (Exists.intro 0 (Exists.intro 0 (And.intro (Nat.le_refl _) (And.intro (Nat.le_refl _) (z_countBad hX hb b14 b17 hi i0 ?_))))))
  exact And.intro rfl hP
theorem nd_pairs {l : Launch} {G : GG} {h : AH} {nx : Nat} {Post : Option Value → AH → Nat → Prop} {o bl dq bi ba hw lb sv tr : Nat} {fs fb fi fw fl fv ft : List Value} {df : Nat → Option Nat} {g : Nat → Int32} {z tl : Int32} {f2 : Int32} (hX : XC G ∧ TX l G) (hN : ND h o fs fb fi fw fl fv ft bl dq bi ba hw lb sv tr df g z tl) (hP : Post (some (.int (-1))) h nx) : Runs l G i_X11_pairs 0 0 [.ref o, .int f2] h nx Post := by
  refine en_X11_pairs hX [] 60 rfl ?_
  obtain ⟨ho, f1, f3, f4, f5, f6, f9, f10, f12, f13, hd, hb, b0, b1, b3, b14, b17, hi, il, i0, i6, hz, ha, hwk, w0, w4, hlb, l5, hsv, htr⟩ := id hN
  refine Exists.intro _ (And.intro ho (Exists.intro 0 (Exists.intro 0 (And.intro (Nat.le_refl _) (And.intro (Nat.le_refl _) (nd_current hX hN ?_))))))
  refine Exists.intro _ (And.intro hb (Exists.intro 0 (Exists.intro 0 (And.intro (Nat.le_refl _) (And.intro (Nat.le_refl _) (z_flawIndex hX hb b14 ?_))))))
  refine And.intro (fun cz => absurd cz (by decide)) (fun _ => ?_)
  exact And.intro rfl hP
theorem nd_least {l : Launch} {G : GG} {h : AH} {nx : Nat} {Post : Option Value → AH → Nat → Prop} {o bl dq bi ba hw lb sv tr : Nat} {fs fb fi fw fl fv ft : List Value} {df : Nat → Option Nat} {g : Nat → Int32} {z tl : Int32} {f2 : Int32} (hX : XC G ∧ TX l G) (hN : ND h o fs fb fi fw fl fv ft bl dq bi ba hw lb sv tr df g z tl) (hP : Post (some (.int (-1))) h nx) : Runs l G i_X11_least 0 0 [.ref o, .int f2] h nx Post := by
  refine en_X11_least hX [] 60 rfl ?_
  obtain ⟨ho, f1, f3, f4, f5, f6, f9, f10, f12, f13, hd, hb, b0, b1, b3, b14, b17, hi, il, i0, i6, hz, ha, hwk, w0, w4, hlb, l5, hsv, htr⟩ := id hN
  refine Exists.intro _ (And.intro ho (Exists.intro 0 (Exists.intro 0 (And.intro (Nat.le_refl _) (And.intro (Nat.le_refl _) (nd_current hX hN ?_))))))
  refine Exists.intro _ (And.intro hb (Exists.intro 0 (Exists.intro 0 (And.intro (Nat.le_refl _) (And.intro (Nat.le_refl _) (z_flawIndex hX hb b14 ?_))))))
  refine And.intro (fun cz => absurd cz (by decide)) (fun _ => ?_)
  exact And.intro rfl hP
theorem nd_pair {l : Launch} {G : GG} {h : AH} {nx : Nat} {Post : Option Value → AH → Nat → Prop} {o bl dq bi ba hw lb sv tr : Nat} {fs fb fi fw fl fv ft : List Value} {df : Nat → Option Nat} {g : Nat → Int32} {z tl : Int32} {f2 i : Int32} (hX : XC G ∧ TX l G) (hN : ND h o fs fb fi fw fl fv ft bl dq bi ba hw lb sv tr df g z tl) (hP : Post (some (.int (-1))) h nx) : Runs l G i_X11_pair 0 0 [.ref o, .int f2, .int i] h nx Post := by
  refine en_X11_pair hX [] 60 rfl ?_
  obtain ⟨ho, f1, f3, f4, f5, f6, f9, f10, f12, f13, hd, hb, b0, b1, b3, b14, b17, hi, il, i0, i6, hz, ha, hwk, w0, w4, hlb, l5, hsv, htr⟩ := id hN
  refine Exists.intro _ (And.intro ho (Exists.intro 0 (Exists.intro 0 (And.intro (Nat.le_refl _) (And.intro (Nat.le_refl _) (nd_current hX hN ?_))))))
  refine Exists.intro _ (And.intro hb (Exists.intro 0 (Exists.intro 0 (And.intro (Nat.le_refl _) (And.intro (Nat.le_refl _) (z_flawIndex hX hb b14 ?_))))))
  refine And.intro (fun cz => absurd cz (by decide)) (fun _ => ?_)
  exact And.intro rfl hP
theorem nd_leastAct {l : Launch} {G : GG} {h : AH} {nx : Nat} {Post : Option Value → AH → Nat → Prop} {o bl dq bi ba hw lb sv tr : Nat} {fs fb fi fw fl fv ft : List Value} {df : Nat → Option Nat} {g : Nat → Int32} {z tl : Int32} {f2 i : Int32} (hX : XC G ∧ TX l G) (hN : ND h o fs fb fi fw fl fv ft bl dq bi ba hw lb sv tr df g z tl) (hP : Post (some (.int (-1))) h nx) : Runs l G i_X11_leastAct 0 0 [.ref o, .int f2, .int i] h nx Post := by
  refine en_X11_leastAct hX [] 60 rfl ?_
  obtain ⟨ho, f1, f3, f4, f5, f6, f9, f10, f12, f13, hd, hb, b0, b1, b3, b14, b17, hi, il, i0, i6, hz, ha, hwk, w0, w4, hlb, l5, hsv, htr⟩ := id hN
  refine Exists.intro _ (And.intro ho (Exists.intro 0 (Exists.intro 0 (And.intro (Nat.le_refl _) (And.intro (Nat.le_refl _) (nd_current hX hN ?_))))))
  refine Exists.intro _ (And.intro hb (Exists.intro 0 (Exists.intro 0 (And.intro (Nat.le_refl _) (And.intro (Nat.le_refl _) (z_flawIndex hX hb b14 ?_))))))
  refine And.intro (fun cz => absurd cz (by decide)) (fun _ => ?_)
  exact And.intro rfl hP
theorem nd_hidden {l : Launch} {G : GG} {h : AH} {nx : Nat} {Post : Option Value → AH → Nat → Prop} {o bl dq bi ba hw lb sv tr : Nat} {fs fb fi fw fl fv ft : List Value} {df : Nat → Option Nat} {g : Nat → Int32} {z tl : Int32}  (hX : XC G ∧ TX l G) (hN : ND h o fs fb fi fw fl fv ft bl dq bi ba hw lb sv tr df g z tl) (hP : Post (some (.int 0)) h nx) : Runs l G i_X11_hidden 0 0 [.ref o] h nx Post := by
  refine en_X11_hidden hX [] 60 rfl ?_
  obtain ⟨ho, f1, f3, f4, f5, f6, f9, f10, f12, f13, hd, hb, b0, b1, b3, b14, b17, hi, il, i0, i6, hz, ha, hwk, w0, w4, hlb, l5, hsv, htr⟩ := id hN
  refine Exists.intro _ (And.intro ho (Exists.intro _ (And.intro f10 ?_)))
  refine Exists.intro _ (And.intro ho (Exists.intro 0 (Exists.intro 0 (And.intro (Nat.le_refl _) (And.intro (Nat.le_refl _) (nd_current hX hN ?_))))))
  refine Exists.intro _ (And.intro htr (Exists.intro 0 (Exists.intro 0 (And.intro (Nat.le_refl _) (And.intro (Nat.le_refl _) (z_countHidden hX hb b14 ?_))))))
  exact And.intro rfl hP
theorem nd_suited {h : AH} {o bl dq bi ba hw lb sv tr : Nat} {fs fb fi fw fl fv ft : List Value} {df : Nat → Option Nat} {g : Nat → Int32} {z tl : Int32} (hN : ND h o fs fb fi fw fl fv ft bl dq bi ba hw lb sv tr df g z tl) : ND (uph h bi (.inr (1, fi.set 6 (.int 0)))) o fs fb (fi.set 6 (.int 0)) fw fl fv ft bl dq bi ba hw lb sv tr df g 0 tl := by
  obtain ⟨ho, f1, f3, f4, f5, f6, f9, f10, f12, f13, hd, hb, b0, b1, b3, b14, b17, hi, il, i0, i6, hz, ha, hwk, w0, w4, hlb, l5, hsv, htr⟩ := id hN
  exact ⟨(by rw [uph_ne (show o ≠ bi from fun e => by rw [e, hi] at ho; cases ho)]; exact ho), f1, f3, f4, f5, f6, f9, f10, f12, f13, (by rw [uph_ne (show dq ≠ bi from fun e => by rw [e, hi] at hd; cases hd)]; exact hd), (by rw [uph_ne (show bl ≠ bi from fun e => by rw [e, hi] at hb; cases hb)]; exact hb), b0, b1, b3, b14, b17, uph_eq, (by rw [List.length_set]; exact il), (by rw [get_set_ne (by decide)]; exact i0), (get_set (by omega)), (Or.inr rfl), (by rw [uph_ne (show ba ≠ bi from fun e => by rw [e, hi] at ha; cases ha)]; exact ha), (by rw [uph_ne (show hw ≠ bi from fun e => by rw [e, hi] at hwk; cases hwk)]; exact hwk), w0, w4, (by rw [uph_ne (show lb ≠ bi from fun e => by rw [e, hi] at hlb; cases hlb)]; exact hlb), l5, (by rw [uph_ne (show sv ≠ bi from fun e => by rw [e, hi] at hsv; cases hsv)]; exact hsv), (by rw [uph_ne (show tr ≠ bi from fun e => by rw [e, hi] at htr; cases htr)]; exact htr)⟩
theorem nd_suite {l : Launch} {G : GG} {h : AH} {nx : Nat} {Post : Option Value → AH → Nat → Prop} {o bl dq bi ba hw lb sv tr : Nat} {fs fb fi fw fl fv ft : List Value} {df : Nat → Option Nat} {g : Nat → Int32} {z tl : Int32}  (hX : XC G ∧ TX l G) (hN : ND h o fs fb fi fw fl fv ft bl dq bi ba hw lb sv tr df g z tl) (hP : Post (some (.int 0)) (uph h bi (.inr (1, fi.set 6 (.int 0)))) nx) : Runs l G i_X11_suite 0 0 [.ref o] h nx Post := by
  refine en_X11_suite hX [] 60 rfl ?_
  obtain ⟨ho, f1, f3, f4, f5, f6, f9, f10, f12, f13, hd, hb, b0, b1, b3, b14, b17, hi, il, i0, i6, hz, ha, hwk, w0, w4, hlb, l5, hsv, htr⟩ := id hN
  refine Exists.intro _ (And.intro ho (Exists.intro _ (And.intro f10 ?_)))
  refine Exists.intro _ (And.intro ho (Exists.intro 0 (Exists.intro 0 (And.intro (Nat.le_refl _) (And.intro (Nat.le_refl _) (nd_current hX hN ?_))))))
  refine Exists.intro _ (And.intro htr (Exists.intro 0 (Exists.intro 0 (And.intro (Nat.le_refl _) (And.intro (Nat.le_refl _) (z_makeSuite hX hb b14 b17 hi il i6 hz ?_))))))
  have hN2 := nd_suited hN
  clear htr hsv l5 hlb w4 w0 hwk ha hz i6 i0 il hi b17 b14 b3 b1 b0 hb hd f13 f12 f10 f9 f6 f5 f4 f3 f1 ho
  obtain ⟨ho, f1, f3, f4, f5, f6, f9, f10, f12, f13, hd, hb, b0, b1, b3, b14, b17, hi, il, i0, i6, hz, ha, hwk, w0, w4, hlb, l5, hsv, htr⟩ := id hN2
  refine Exists.intro _ (And.intro ho (Exists.intro 0 (Exists.intro 0 (And.intro (Nat.le_refl _) (And.intro (Nat.le_refl _) (nd_current hX hN2 ?_))))))
  refine Exists.intro _ (And.intro hb (Exists.intro _ (And.intro b17 ?_)))
  refine Exists.intro _ (And.intro hi (Exists.intro _ (And.intro i6 ?_)))
  exact And.intro rfl hP
theorem nd_suiteAct {l : Launch} {G : GG} {h : AH} {nx : Nat} {Post : Option Value → AH → Nat → Prop} {o bl dq bi ba hw lb sv tr : Nat} {fs fb fi fw fl fv ft : List Value} {df : Nat → Option Nat} {g : Nat → Int32} {z tl : Int32} {k i : Int32} (hX : XC G ∧ TX l G) (hN : ND h o fs fb fi fw fl fv ft bl dq bi ba hw lb sv tr df g z tl) (hP : Post (some (.int (-1))) (uph h bi (.inr (1, fi.set 6 (.int 0)))) nx) : Runs l G i_X11_suiteAct 0 0 [.ref o, .int k, .int i] h nx Post := by
  refine en_X11_suiteAct hX [] 60 rfl ?_
  obtain ⟨ho, f1, f3, f4, f5, f6, f9, f10, f12, f13, hd, hb, b0, b1, b3, b14, b17, hi, il, i0, i6, hz, ha, hwk, w0, w4, hlb, l5, hsv, htr⟩ := id hN
  refine Exists.intro _ (And.intro ho (Exists.intro _ (And.intro f10 ?_)))
  refine Exists.intro _ (And.intro ho (Exists.intro 0 (Exists.intro 0 (And.intro (Nat.le_refl _) (And.intro (Nat.le_refl _) (nd_current hX hN ?_))))))
  refine Exists.intro _ (And.intro htr (Exists.intro 0 (Exists.intro 0 (And.intro (Nat.le_refl _) (And.intro (Nat.le_refl _) (z_makeSuite hX hb b14 b17 hi il i6 hz ?_))))))
  have hN2 := nd_suited hN
  clear htr hsv l5 hlb w4 w0 hwk ha hz i6 i0 il hi b17 b14 b3 b1 b0 hb hd f13 f12 f10 f9 f6 f5 f4 f3 f1 ho
  obtain ⟨ho, f1, f3, f4, f5, f6, f9, f10, f12, f13, hd, hb, b0, b1, b3, b14, b17, hi, il, i0, i6, hz, ha, hwk, w0, w4, hlb, l5, hsv, htr⟩ := id hN2
  refine Exists.intro _ (And.intro ho (Exists.intro 0 (Exists.intro 0 (And.intro (Nat.le_refl _) (And.intro (Nat.le_refl _) (nd_current hX hN2 ?_))))))
  refine Exists.intro _ (And.intro hb (Exists.intro _ (And.intro b17 ?_)))
  refine Exists.intro _ (And.intro hi (Exists.intro 0 (Exists.intro 0 (And.intro (Nat.le_refl _) (And.intro (Nat.le_refl _) (z_suiteTest hX hi i6 ?_))))))
  refine Exists.intro 0 (Exists.intro 0 (And.intro (Nat.le_refl _) (And.intro (Nat.le_refl _) (z_actAt hX ?_))))
  exact And.intro rfl hP
theorem nd_suiteActs {l : Launch} {G : GG} {h : AH} {nx : Nat} {Post : Option Value → AH → Nat → Prop} {o bl dq bi ba hw lb sv tr : Nat} {fs fb fi fw fl fv ft : List Value} {df : Nat → Option Nat} {g : Nat → Int32} {z tl : Int32}  (hX : XC G ∧ TX l G) (hN : ND h o fs fb fi fw fl fv ft bl dq bi ba hw lb sv tr df g z tl) (hP : Post (some (.int 0)) (uph h bi (.inr (1, fi.set 6 (.int 0)))) nx) : Runs l G i_X11_suiteActs 0 0 [.ref o] h nx Post := by
  refine en_X11_suiteActs hX [] 60 rfl ?_
  obtain ⟨ho, f1, f3, f4, f5, f6, f9, f10, f12, f13, hd, hb, b0, b1, b3, b14, b17, hi, il, i0, i6, hz, ha, hwk, w0, w4, hlb, l5, hsv, htr⟩ := id hN
  refine Exists.intro _ (And.intro ho (Exists.intro _ (And.intro f10 ?_)))
  refine Exists.intro _ (And.intro ho (Exists.intro 0 (Exists.intro 0 (And.intro (Nat.le_refl _) (And.intro (Nat.le_refl _) (nd_current hX hN ?_))))))
  refine Exists.intro _ (And.intro htr (Exists.intro 0 (Exists.intro 0 (And.intro (Nat.le_refl _) (And.intro (Nat.le_refl _) (z_makeSuite hX hb b14 b17 hi il i6 hz ?_))))))
  have hN2 := nd_suited hN
  clear htr hsv l5 hlb w4 w0 hwk ha hz i6 i0 il hi b17 b14 b3 b1 b0 hb hd f13 f12 f10 f9 f6 f5 f4 f3 f1 ho
  obtain ⟨ho, f1, f3, f4, f5, f6, f9, f10, f12, f13, hd, hb, b0, b1, b3, b14, b17, hi, il, i0, i6, hz, ha, hwk, w0, w4, hlb, l5, hsv, htr⟩ := id hN2
  refine Exists.intro _ (And.intro ho (Exists.intro 0 (Exists.intro 0 (And.intro (Nat.le_refl _) (And.intro (Nat.le_refl _) (nd_current hX hN2 ?_))))))
  refine Exists.intro _ (And.intro hb (Exists.intro _ (And.intro b17 ?_)))
  refine Exists.intro _ (And.intro hi (Exists.intro _ (And.intro i6 ?_)))
  refine And.intro (fun _ => ?_) (fun cz => absurd (by decide) cz)
  exact And.intro rfl hP
theorem nd_unlike {l : Launch} {G : GG} {h : AH} {nx : Nat} {Post : Option Value → AH → Nat → Prop} {o bl dq bi ba hw lb sv tr : Nat} {fs fb fi fw fl fv ft : List Value} {df : Nat → Option Nat} {g : Nat → Int32} {z tl : Int32} {a b : Int32} (hX : XC G ∧ TX l G) (hN : ND h o fs fb fi fw fl fv ft bl dq bi ba hw lb sv tr df g z tl) (hP : Post (some (.int (-1))) h nx) : Runs l G i_X11_unlike 0 0 [.ref o, .int a, .int b] h nx Post := by
  refine en_X11_unlike hX [] 60 rfl ?_
  obtain ⟨ho, f1, f3, f4, f5, f6, f9, f10, f12, f13, hd, hb, b0, b1, b3, b14, b17, hi, il, i0, i6, hz, ha, hwk, w0, w4, hlb, l5, hsv, htr⟩ := id hN
  refine Exists.intro _ (And.intro ho (Exists.intro 0 (Exists.intro 0 (And.intro (Nat.le_refl _) (And.intro (Nat.le_refl _) (nd_isDrawing hX hN ?_))))))
  refine And.intro (fun _ => ?_) (fun cz => absurd (by decide) cz)
  exact And.intro rfl hP
theorem nd_safe {l : Launch} {G : GG} {h : AH} {nx : Nat} {Post : Option Value → AH → Nat → Prop} {o bl dq bi ba hw lb sv tr : Nat} {fs fb fi fw fl fv ft : List Value} {df : Nat → Option Nat} {g : Nat → Int32} {z tl : Int32} {a b t : Int32} (hX : XC G ∧ TX l G) (hN : ND h o fs fb fi fw fl fv ft bl dq bi ba hw lb sv tr df g z tl) (hP : Post (some (.int (-1))) h nx) : Runs l G i_X11_safe 0 0 [.ref o, .int a, .int b, .int t] h nx Post := by
  refine en_X11_safe hX [] 60 rfl ?_
  obtain ⟨ho, f1, f3, f4, f5, f6, f9, f10, f12, f13, hd, hb, b0, b1, b3, b14, b17, hi, il, i0, i6, hz, ha, hwk, w0, w4, hlb, l5, hsv, htr⟩ := id hN
  refine Exists.intro _ (And.intro ho (Exists.intro 0 (Exists.intro 0 (And.intro (Nat.le_refl _) (And.intro (Nat.le_refl _) (nd_unlike hX hN ?_))))))
  refine And.intro (fun cz => absurd cz (by decide)) (fun _ => ?_)
  exact And.intro rfl hP
theorem nd_plan {l : Launch} {G : GG} {h : AH} {nx : Nat} {Post : Option Value → AH → Nat → Prop} {o bl dq bi ba hw lb sv tr : Nat} {fs fb fi fw fl fv ft : List Value} {df : Nat → Option Nat} {g : Nat → Int32} {z tl : Int32} {a b t : Int32} (hX : XC G ∧ TX l G) (hN : ND h o fs fb fi fw fl fv ft bl dq bi ba hw lb sv tr df g z tl) (hP : Post (some (.int (-1))) h nx) : Runs l G i_X11_plan 0 0 [.ref o, .int a, .int b, .int t] h nx Post := by
  refine en_X11_plan hX [] 60 rfl ?_
  obtain ⟨ho, f1, f3, f4, f5, f6, f9, f10, f12, f13, hd, hb, b0, b1, b3, b14, b17, hi, il, i0, i6, hz, ha, hwk, w0, w4, hlb, l5, hsv, htr⟩ := id hN
  refine Exists.intro _ (And.intro ho (Exists.intro 0 (Exists.intro 0 (And.intro (Nat.le_refl _) (And.intro (Nat.le_refl _) (nd_unlike hX hN ?_))))))
  refine And.intro (fun _ => ?_) (fun cz => absurd (by decide) cz)
  exact And.intro rfl hP
theorem nd_stage {l : Launch} {G : GG} {h : AH} {nx : Nat} {Post : Option Value → AH → Nat → Prop} {o bl dq bi ba hw lb sv tr : Nat} {fs fb fi fw fl fv ft : List Value} {df : Nat → Option Nat} {g : Nat → Int32} {z tl : Int32} {a b t i : Int32} (hX : XC G ∧ TX l G) (hN : ND h o fs fb fi fw fl fv ft bl dq bi ba hw lb sv tr df g z tl) (hP : Post (some (.int (-1))) h nx) : Runs l G i_X11_stage 0 0 [.ref o, .int a, .int b, .int t, .int i] h nx Post := by
  refine en_X11_stage hX [] 60 rfl ?_
  obtain ⟨ho, f1, f3, f4, f5, f6, f9, f10, f12, f13, hd, hb, b0, b1, b3, b14, b17, hi, il, i0, i6, hz, ha, hwk, w0, w4, hlb, l5, hsv, htr⟩ := id hN
  refine Exists.intro _ (And.intro ho (Exists.intro 0 (Exists.intro 0 (And.intro (Nat.le_refl _) (And.intro (Nat.le_refl _) (nd_plan hX hN ?_))))))
  refine And.intro (fun c1 => ?_) (fun c1 => ?_)
  · exact And.intro rfl hP
  · refine And.intro (fun c2 => absurd (Int32.lt_trans c2 (by decide)) c1) (fun _ => ?_)
    exact And.intro rfl hP
theorem nd_log {l : Launch} {G : GG} {h : AH} {nx : Nat} {Post : Option Value → AH → Nat → Prop} {o bl dq bi ba hw lb sv tr : Nat} {fs fb fi fw fl fv ft : List Value} {df : Nat → Option Nat} {g : Nat → Int32} {z tl : Int32} {a b t : Int32} (hX : XC G ∧ TX l G) (hN : ND h o fs fb fi fw fl fv ft bl dq bi ba hw lb sv tr df g z tl) (hP : Post (some (.int (-1))) h nx) : Runs l G i_X11_log 0 0 [.ref o, .int a, .int b, .int t] h nx Post := by
  refine en_X11_log hX [] 60 rfl ?_
  obtain ⟨ho, f1, f3, f4, f5, f6, f9, f10, f12, f13, hd, hb, b0, b1, b3, b14, b17, hi, il, i0, i6, hz, ha, hwk, w0, w4, hlb, l5, hsv, htr⟩ := id hN
  refine Exists.intro _ (And.intro ho (Exists.intro _ (And.intro f6 ?_)))
  refine And.intro (fun cz => absurd cz (by decide)) (fun _ => ?_)
  exact And.intro rfl hP
theorem nd_annul {l : Launch} {G : GG} {h : AH} {nx : Nat} {Post : Option Value → AH → Nat → Prop} {o bl dq bi ba hw lb sv tr : Nat} {fs fb fi fw fl fv ft : List Value} {df : Nat → Option Nat} {g : Nat → Int32} {z tl : Int32} {k : Int32} (hX : XC G ∧ TX l G) (hN : ND h o fs fb fi fw fl fv ft bl dq bi ba hw lb sv tr df g z tl) (hP : Post (some (.int (-1))) h nx) : Runs l G i_X11_annul 0 0 [.ref o, .int k] h nx Post := by
  refine en_X11_annul hX [] 60 rfl ?_
  obtain ⟨ho, f1, f3, f4, f5, f6, f9, f10, f12, f13, hd, hb, b0, b1, b3, b14, b17, hi, il, i0, i6, hz, ha, hwk, w0, w4, hlb, l5, hsv, htr⟩ := id hN
  refine Exists.intro _ (And.intro ho (Exists.intro _ (And.intro f12 ?_)))
  refine Exists.intro _ (And.intro hlb (Exists.intro 0 (Exists.intro 0 (And.intro (Nat.le_refl _) (And.intro (Nat.le_refl _) (z_writeVoid hX hlb l5 ?_))))))
  exact And.intro rfl hP
theorem nd_fits {l : Launch} {G : GG} {h : AH} {nx : Nat} {Post : Option Value → AH → Nat → Prop} {o bl dq bi ba hw lb sv tr : Nat} {fs fb fi fw fl fv ft : List Value} {df : Nat → Option Nat} {g : Nat → Int32} {z tl : Int32} {a b : Int32} (hX : XC G ∧ TX l G) (hN : ND h o fs fb fi fw fl fv ft bl dq bi ba hw lb sv tr df g z tl) (hP : Post (some (.int (-2))) h nx) : Runs l G i_X11_fits 0 0 [.ref o, .int a, .int b] h nx Post := by
  refine en_X11_fits hX [] 60 rfl ?_
  obtain ⟨ho, f1, f3, f4, f5, f6, f9, f10, f12, f13, hd, hb, b0, b1, b3, b14, b17, hi, il, i0, i6, hz, ha, hwk, w0, w4, hlb, l5, hsv, htr⟩ := id hN
  refine Exists.intro _ (And.intro ho (Exists.intro 0 (Exists.intro 0 (And.intro (Nat.le_refl _) (And.intro (Nat.le_refl _) (nd_current hX hN ?_))))))
  refine Exists.intro _ (And.intro ho (Exists.intro _ (And.intro f6 ?_)))
  refine And.intro (fun _ => ?_) (fun cz => absurd (by decide) cz)
  exact And.intro rfl hP
theorem nd_suspects {l : Launch} {G : GG} {h : AH} {nx : Nat} {Post : Option Value → AH → Nat → Prop} {o bl dq bi ba hw lb sv tr : Nat} {fs fb fi fw fl fv ft : List Value} {df : Nat → Option Nat} {g : Nat → Int32} {z tl : Int32} {a : Int32} (hX : XC G ∧ TX l G) (hN : ND h o fs fb fi fw fl fv ft bl dq bi ba hw lb sv tr df g z tl) (hP : Post (some (.int (-1))) h nx) : Runs l G i_X11_suspects 0 0 [.ref o, .int a] h nx Post := by
  refine en_X11_suspects hX [] 60 rfl ?_
  obtain ⟨ho, f1, f3, f4, f5, f6, f9, f10, f12, f13, hd, hb, b0, b1, b3, b14, b17, hi, il, i0, i6, hz, ha, hwk, w0, w4, hlb, l5, hsv, htr⟩ := id hN
  refine Exists.intro _ (And.intro ho (Exists.intro _ (And.intro f6 ?_)))
  refine And.intro (fun _ => ?_) (fun cz => absurd (by decide) cz)
  exact And.intro rfl hP
theorem nd_next {l : Launch} {G : GG} {h : AH} {nx : Nat} {Post : Option Value → AH → Nat → Prop} {o bl dq bi ba hw lb sv tr : Nat} {fs fb fi fw fl fv ft : List Value} {df : Nat → Option Nat} {g : Nat → Int32} {z tl : Int32} {a : Int32} (hX : XC G ∧ TX l G) (hN : ND h o fs fb fi fw fl fv ft bl dq bi ba hw lb sv tr df g z tl) (hP : Post (some (.int (-1))) h nx) : Runs l G i_X11_next 0 0 [.ref o, .int a] h nx Post := by
  refine en_X11_next hX [] 60 rfl ?_
  obtain ⟨ho, f1, f3, f4, f5, f6, f9, f10, f12, f13, hd, hb, b0, b1, b3, b14, b17, hi, il, i0, i6, hz, ha, hwk, w0, w4, hlb, l5, hsv, htr⟩ := id hN
  refine Exists.intro _ (And.intro ho (Exists.intro _ (And.intro f6 ?_)))
  refine And.intro (fun _ => ?_) (fun cz => absurd (by decide) cz)
  exact And.intro rfl hP
theorem nd_set {l : Launch} {G : GG} {h : AH} {nx : Nat} {Post : Option Value → AH → Nat → Prop} {o bl dq bi ba hw lb sv tr : Nat} {fs fb fi fw fl fv ft : List Value} {df : Nat → Option Nat} {g : Nat → Int32} {z tl : Int32} {k on : Int32} (hX : XC G ∧ TX l G) (hN : ND h o fs fb fi fw fl fv ft bl dq bi ba hw lb sv tr df g z tl) (hP : Post (some (.int 0)) h nx) : Runs l G i_X11_set 0 0 [.ref o, .int k, .int on] h nx Post := by
  refine en_X11_set hX [] 60 rfl ?_
  obtain ⟨ho, f1, f3, f4, f5, f6, f9, f10, f12, f13, hd, hb, b0, b1, b3, b14, b17, hi, il, i0, i6, hz, ha, hwk, w0, w4, hlb, l5, hsv, htr⟩ := id hN
  refine Exists.intro _ (And.intro ho (Exists.intro _ (And.intro f13 ?_)))
  refine Exists.intro _ (And.intro hwk (Exists.intro 0 (Exists.intro 0 (And.intro (Nat.le_refl _) (And.intro (Nat.le_refl _) (z_setInput hX hwk w0 hb b0 ?_))))))
  exact And.intro rfl hP
theorem nd_strap {l : Launch} {G : GG} {h : AH} {nx : Nat} {Post : Option Value → AH → Nat → Prop} {o bl dq bi ba hw lb sv tr : Nat} {fs fb fi fw fl fv ft : List Value} {df : Nat → Option Nat} {g : Nat → Int32} {z tl : Int32} {k on : Int32} (hX : XC G ∧ TX l G) (hN : ND h o fs fb fi fw fl fv ft bl dq bi ba hw lb sv tr df g z tl) (hP : Post (some (.int 0)) h nx) : Runs l G i_X11_strap 0 0 [.ref o, .int k, .int on] h nx Post := by
  refine en_X11_strap hX [] 60 rfl ?_
  obtain ⟨ho, f1, f3, f4, f5, f6, f9, f10, f12, f13, hd, hb, b0, b1, b3, b14, b17, hi, il, i0, i6, hz, ha, hwk, w0, w4, hlb, l5, hsv, htr⟩ := id hN
  refine Exists.intro _ (And.intro ho (Exists.intro _ (And.intro f13 ?_)))
  refine Exists.intro _ (And.intro hwk (Exists.intro 0 (Exists.intro 0 (And.intro (Nat.le_refl _) (And.intro (Nat.le_refl _) (z_layStrap hX hwk w0 hb b3 ?_))))))
  exact And.intro rfl hP
theorem nd_age {l : Launch} {G : GG} {h : AH} {nx : Nat} {Post : Option Value → AH → Nat → Prop} {o bl dq bi ba hw lb sv tr : Nat} {fs fb fi fw fl fv ft : List Value} {df : Nat → Option Nat} {g : Nat → Int32} {z tl : Int32} {k on : Int32} (hX : XC G ∧ TX l G) (hN : ND h o fs fb fi fw fl fv ft bl dq bi ba hw lb sv tr df g z tl) (hP : Post (some (.int 0)) h nx) : Runs l G i_X11_age 0 0 [.ref o, .int k, .int on] h nx Post := by
  refine en_X11_age hX [] 60 rfl ?_
  obtain ⟨ho, f1, f3, f4, f5, f6, f9, f10, f12, f13, hd, hb, b0, b1, b3, b14, b17, hi, il, i0, i6, hz, ha, hwk, w0, w4, hlb, l5, hsv, htr⟩ := id hN
  refine Exists.intro _ (And.intro ho (Exists.intro _ (And.intro f13 ?_)))
  refine Exists.intro _ (And.intro hwk (Exists.intro 0 (Exists.intro 0 (And.intro (Nat.le_refl _) (And.intro (Nat.le_refl _) (z_setAge hX hwk w0 hb b1 ?_))))))
  exact And.intro rfl hP
theorem nd_round {l : Launch} {G : GG} {h : AH} {nx : Nat} {Post : Option Value → AH → Nat → Prop} {o bl dq bi ba hw lb sv tr : Nat} {fs fb fi fw fl fv ft : List Value} {df : Nat → Option Nat} {g : Nat → Int32} {z tl : Int32}  (hX : XC G ∧ TX l G) (hN : ND h o fs fb fi fw fl fv ft bl dq bi ba hw lb sv tr df g z tl) (hP : Post (some (.int (-1))) h nx) : Runs l G i_X11_round 0 0 [.ref o] h nx Post := by
  refine en_X11_round hX [] 60 rfl ?_
  obtain ⟨ho, f1, f3, f4, f5, f6, f9, f10, f12, f13, hd, hb, b0, b1, b3, b14, b17, hi, il, i0, i6, hz, ha, hwk, w0, w4, hlb, l5, hsv, htr⟩ := id hN
  refine Exists.intro _ (And.intro ho (Exists.intro _ (And.intro f6 ?_)))
  refine And.intro (fun cz => absurd cz (by decide)) (fun _ => ?_)
  exact And.intro rfl hP
theorem nd_hand {l : Launch} {G : GG} {h : AH} {nx : Nat} {Post : Option Value → AH → Nat → Prop} {o bl dq bi ba hw lb sv tr : Nat} {fs fb fi fw fl fv ft : List Value} {df : Nat → Option Nat} {g : Nat → Int32} {z tl : Int32} {k : Int32} (hX : XC G ∧ TX l G) (hN : ND h o fs fb fi fw fl fv ft bl dq bi ba hw lb sv tr df g z tl) (hP : Post (some (.int (-1))) h nx) : Runs l G i_X11_hand 0 0 [.ref o, .int k] h nx Post := by
  refine en_X11_hand hX [] 60 rfl ?_
  obtain ⟨ho, f1, f3, f4, f5, f6, f9, f10, f12, f13, hd, hb, b0, b1, b3, b14, b17, hi, il, i0, i6, hz, ha, hwk, w0, w4, hlb, l5, hsv, htr⟩ := id hN
  refine Exists.intro _ (And.intro ho (Exists.intro _ (And.intro f6 ?_)))
  refine And.intro (fun cz => absurd cz (by decide)) (fun _ => ?_)
  exact And.intro rfl hP
theorem nd_clash {l : Launch} {G : GG} {h : AH} {nx : Nat} {Post : Option Value → AH → Nat → Prop} {o bl dq bi ba hw lb sv tr : Nat} {fs fb fi fw fl fv ft : List Value} {df : Nat → Option Nat} {g : Nat → Int32} {z tl : Int32}  (hX : XC G ∧ TX l G) (hN : ND h o fs fb fi fw fl fv ft bl dq bi ba hw lb sv tr df g z tl) (hP : Post (some (.int 0)) h nx) : Runs l G i_X11_clash 0 0 [.ref o] h nx Post := by
  refine en_X11_clash hX [] 60 rfl ?_
  obtain ⟨ho, f1, f3, f4, f5, f6, f9, f10, f12, f13, hd, hb, b0, b1, b3, b14, b17, hi, il, i0, i6, hz, ha, hwk, w0, w4, hlb, l5, hsv, htr⟩ := id hN
  refine Exists.intro _ (And.intro ho (Exists.intro _ (And.intro f13 ?_)))
  refine Exists.intro _ (And.intro hwk (Exists.intro 0 (Exists.intro 0 (And.intro (Nat.le_refl _) (And.intro (Nat.le_refl _) (z_hasClashed hX hwk w4 ?_))))))
  refine And.intro (fun _ => ?_) (fun cz => absurd (by decide) cz)
  exact And.intro rfl hP
theorem nd_use {l : Launch} {G : GG} {h : AH} {nx : Nat} {Post : Option Value → AH → Nat → Prop} {o bl dq bi ba hw lb sv tr : Nat} {fs fb fi fw fl fv ft : List Value} {df : Nat → Option Nat} {g : Nat → Int32} {z tl : Int32} {d : Int32} (hX : XC G ∧ TX l G) (hN : ND h o fs fb fi fw fl fv ft bl dq bi ba hw lb sv tr df g z tl) (hP : Post (some (.int 0)) h nx) : Runs l G i_X11_use 0 0 [.ref o, .int d] h nx Post := by
  refine en_X11_use hX [] 60 rfl ?_
  obtain ⟨ho, f1, f3, f4, f5, f6, f9, f10, f12, f13, hd, hb, b0, b1, b3, b14, b17, hi, il, i0, i6, hz, ha, hwk, w0, w4, hlb, l5, hsv, htr⟩ := id hN
  refine Exists.intro _ (And.intro ho (Exists.intro 0 (Exists.intro 0 (And.intro (Nat.le_refl _) (And.intro (Nat.le_refl _) (nd_isDrawing hX hN ?_))))))
  refine And.intro (fun cz => absurd cz (by decide)) (fun _ => ?_)
  exact And.intro rfl hP
def cntN (w t : Int32) : Int32 := if w = 0 then 0 else if w = 8 then 0 else if w = 9 then t else -1
theorem cntN_1 {w t : Int32} (h0 : w ≠ 0) (h8 : w ≠ 8) (h9 : w ≠ 9) : cntN w t = -1 := by
  unfold cntN
  rw [if_neg h0, if_neg h8, if_neg h9]
theorem cntN_k {w t : Int32} {k : Int} (hw : w.toInt = k) (h0 : k ≠ 0) (h8 : k ≠ 8) (h9 : k ≠ 9) : cntN w t = -1 :=
  cntN_1 (fun e => h0 (by rw [← hw, e]; rfl)) (fun e => h8 (by rw [← hw, e]; rfl)) (fun e => h9 (by rw [← hw, e]; rfl))
theorem nd_count {l : Launch} {G : GG} {h : AH} {nx : Nat} {Post : Option Value → AH → Nat → Prop} {o bl dq bi ba hw lb sv tr : Nat} {fs fb fi fw fl fv ft : List Value} {df : Nat → Option Nat} {g : Nat → Int32} {z tl : Int32} {w : Int32} (hX : XC G ∧ TX l G) (hN : ND h o fs fb fi fw fl fv ft bl dq bi ba hw lb sv tr df g z tl) (hP : Post (some (.int (cntN w tl))) h nx) : Runs l G i_X11_count 0 0 [.ref o, .int w] h nx Post := by
  refine en_X11_count hX [] 60 rfl ?_
  obtain ⟨ho, f1, f3, f4, f5, f6, f9, f10, f12, f13, hd, hb, b0, b1, b3, b14, b17, hi, il, i0, i6, hz, ha, hwk, w0, w4, hlb, l5, hsv, htr⟩ := id hN
  refine Exists.intro _ (And.intro ho (Exists.intro 0 (Exists.intro 0 (And.intro (Nat.le_refl _) (And.intro (Nat.le_refl _) (nd_current hX hN ?_))))))
  refine And.intro (fun cw => ?_) ?_
  · rw [cntN_1 (fun e => by rw [e] at cw; exact absurd cw (by decide)) (fun e => by rw [e] at cw; exact absurd cw (by decide)) (fun e => by rw [e] at cw; exact absurd cw (by decide))] at hP
    refine Exists.intro _ (And.intro ho (Exists.intro _ (And.intro f6 ?_)))
    refine And.intro (fun cz => absurd cz (by decide)) (fun _ => ?_)
    exact And.intro rfl hP
  refine And.intro (fun cw => ?_) ?_
  · have e : w = 0 := cw
    subst e
    rw [show cntN 0 tl = 0 from rfl] at hP
    refine Exists.intro _ (And.intro ho (Exists.intro _ (And.intro f5 ?_)))
    exact And.intro rfl hP
  refine And.intro (fun cw => ?_) ?_
  · have e : w = 1 := cw
    subst e
    rw [show cntN 1 tl = -1 from cntN_1 (by decide) (by decide) (by decide)] at hP
    refine Exists.intro _ (And.intro ho (Exists.intro _ (And.intro f6 ?_)))
    exact And.intro rfl hP
  refine And.intro (fun cw => ?_) ?_
  · have e : w = 2 := cw
    subst e
    rw [show cntN 2 tl = -1 from cntN_1 (by decide) (by decide) (by decide)] at hP
    refine Exists.intro _ (And.intro ho (Exists.intro _ (And.intro f6 ?_)))
    refine And.intro (fun cz => absurd cz (by decide)) (fun _ => ?_)
    exact And.intro rfl hP
  refine And.intro (fun cw => ?_) ?_
  · have e : w = 3 := cw
    subst e
    rw [show cntN 3 tl = -1 from cntN_1 (by decide) (by decide) (by decide)] at hP
    refine Exists.intro _ (And.intro ho (Exists.intro _ (And.intro f6 ?_)))
    refine And.intro (fun cz => absurd cz (by decide)) (fun _ => ?_)
    exact And.intro rfl hP
  refine And.intro (fun cw => ?_) ?_
  · have e : w = 4 := cw
    subst e
    rw [show cntN 4 tl = -1 from cntN_1 (by decide) (by decide) (by decide)] at hP
    refine Exists.intro _ (And.intro ho (Exists.intro _ (And.intro f6 ?_)))
    refine And.intro (fun cz => absurd cz (by decide)) (fun _ => ?_)
    exact And.intro rfl hP
  refine And.intro (fun cw => ?_) ?_
  · have e : w = 5 := cw
    subst e
    rw [show cntN 5 tl = -1 from cntN_1 (by decide) (by decide) (by decide)] at hP
    refine Exists.intro _ (And.intro ho (Exists.intro _ (And.intro f6 ?_)))
    refine And.intro (fun cz => absurd cz (by decide)) (fun _ => ?_)
    exact And.intro rfl hP
  refine And.intro (fun cw => ?_) ?_
  · have e : w = 6 := cw
    subst e
    rw [show cntN 6 tl = -1 from cntN_1 (by decide) (by decide) (by decide)] at hP
    refine Exists.intro _ (And.intro ho (Exists.intro _ (And.intro f6 ?_)))
    refine And.intro (fun cz => absurd cz (by decide)) (fun _ => ?_)
    exact And.intro rfl hP
  refine And.intro (fun cw => ?_) ?_
  · have e : w = 7 := cw
    subst e
    rw [show cntN 7 tl = -1 from cntN_1 (by decide) (by decide) (by decide)] at hP
    refine Exists.intro _ (And.intro ho (Exists.intro _ (And.intro f6 ?_)))
    refine And.intro (fun cz => absurd cz (by decide)) (fun _ => ?_)
    exact And.intro rfl hP
  refine And.intro (fun cw => ?_) ?_
  · have e : w = 8 := cw
    subst e
    rw [show cntN 8 tl = 0 from rfl] at hP
    refine Exists.intro _ (And.intro ho (Exists.intro _ (And.intro f12 ?_)))
    refine Exists.intro _ (And.intro hlb (Exists.intro 0 (Exists.intro 0 (And.intro (Nat.le_refl _) (And.intro (Nat.le_refl _) (z_entryCount hX hlb l5 ?_))))))
    exact And.intro rfl hP
  refine And.intro (fun cw => ?_) ?_
  · have e : w = 9 := cw
    subst e
    rw [show cntN 9 tl = tl from rfl] at hP
    refine Exists.intro _ (And.intro ho (Exists.intro _ (And.intro f1 ?_)))
    exact And.intro rfl hP
  trivial
