/-! the model reads a text -/
theorem cmF_k {fs : List Value} {d : Int32} {k : Nat} (h : k ≠ 19 ∧ k ≠ 84 ∧ k ≠ 50 ∧ k ≠ 51 ∧ k ≠ 55) : (cmF fs d)[k]? = fs[k]? := by
  unfold cmF
  rw [get_set_ne (by omega), get_set_ne (by omega), get_set_ne (by omega), get_set_ne (by omega), get_set_ne (by omega)]
theorem rfM_c : ∀ j, j < 63 → rfM j ≠ 19 ∧ rfM j ≠ 84 ∧ rfM j ≠ 50 ∧ rfM j ≠ 51 ∧ rfM j ≠ 55 ∧ rfM j ≠ 17 ∧ rfM j ≠ 18 ∧ rfM j ≠ 20 ∧ rfM j ≠ 2 ∧ rfM j ≠ 4 ∧ rfM j ≠ 0 := by decide +kernel
set_option maxHeartbeats 8000000 in
theorem m_comes {l : Launch} {G : GG} {h : AH} {nx : Nat} {Post : Option Value → AH → Nat → Prop} {o : Nat} {v : Int32} {fs : List Value} (hX : XC G ∧ TX l G) (hM : MA h o fs) (hS : SHm h o) (hP : ∀ (h1 : AH), MA h1 o (cmF fs v) → SHm h1 o → (∀ D : DD, dR D ≤ 6 → MHw h1 o (cmF fs v) D hw0) → (∀ x, x ≠ o → (x < o + 1 + 32 ∨ o + 1 + 35 ≤ x) → h1 x = h x) → Post none h1 nx) : Runs l G i_X12_comes 0 0 [.ref o, .int v] h nx Post := by
  obtain ⟨gs, e32⟩ := hS.i 32 (by decide) (by decide) rfl
  obtain ⟨ga, e33⟩ := hS.i 33 (by decide) (by decide) rfl
  obtain ⟨gd, e34⟩ := hS.i 34 (by decide) (by decide) rfl
  refine c_comes hX hM.1 hM.2.1 (hM.2.2 32 (by decide)) (hM.2.2 33 (by decide)) (hM.2.2 34 (by decide)) e32 e33 e34 (by omega) (fun gs1 ga1 gd1 z1 z2 z3 => ?_)
  have hl : (cmF fs v).length = 99 := by
    unfold cmF
    rw [List.length_set, List.length_set, List.length_set, List.length_set, List.length_set]
    exact hM.2.1
  have ho : uph (uph (uph (uph h o (.inr (12, cmF fs v))) (o + 1 + 32) (.inl (3, 40, .inl gs1))) (o + 1 + 33) (.inl (0, 6, .inl ga1))) (o + 1 + 34) (.inl (0, 6, .inl gd1)) o = some (.inr (12, cmF fs v)) := (uph_ne (by omega)).trans ((uph_ne (by omega)).trans ((uph_ne (by omega)).trans uph_eq))
  have M1 : MA (uph (uph (uph (uph h o (.inr (12, cmF fs v))) (o + 1 + 32) (.inl (3, 40, .inl gs1))) (o + 1 + 33) (.inl (0, 6, .inl ga1))) (o + 1 + 34) (.inl (0, 6, .inl gd1))) o (cmF fs v) := ⟨ho, hl, fun j hj => by
    have := rfM_c j hj
    rw [cmF_k (by omega)]
    exact hM.2.2 j hj⟩
  have S1 : SHm (uph (uph (uph (uph h o (.inr (12, cmF fs v))) (o + 1 + 32) (.inl (3, 40, .inl gs1))) (o + 1 + 33) (.inl (0, 6, .inl ga1))) (o + 1 + 34) (.inl (0, 6, .inl gd1))) o := ((hS.obj.row1 (j := 32) (rowS_i (by decide) rfl ⟨_, rfl⟩)).row1 (j := 33) (rowS_i (by decide) rfl ⟨_, rfl⟩)).row1 (j := 34) (rowS_i (by decide) rfl ⟨_, rfl⟩)
  refine hP _ M1 S1 (fun D hD => ⟨gs1, ga1, gd1, (uph_ne (by omega)).trans ((uph_ne (by omega)).trans uph_eq), (uph_ne (by omega)).trans uph_eq, uph_eq, ?_, ?_, ?_, fun k hk => ?_, fun r hr => ?_, fun r hr => ?_⟩) (fun x x1 x2 => (uph_ne (by omega)).trans ((uph_ne (by omega)).trans ((uph_ne (by omega)).trans (uph_ne x1))))
  · unfold cmF
    rw [get_set_ne (by decide), get_set_ne (by decide)]
    exact get_set (by rw [List.length_set, List.length_set, hM.2.1]; decide)
  · unfold cmF
    rw [get_set_ne (by decide)]
    exact get_set (by rw [List.length_set, List.length_set, List.length_set, hM.2.1]; decide)
  · unfold cmF
    exact get_set (by rw [List.length_set, List.length_set, List.length_set, List.length_set, hM.2.1]; decide)
  · rw [z1 k hk]; rfl
  · rw [z2 r hr]; rfl
  · rw [z3 r (by omega)]; rfl
theorem cmF_19 {fs : List Value} {d : Int32} (h : fs.length = 99) : (cmF fs d)[19]? = some (.int d) ∧ (cmF fs d)[84]? = some (.int 0) := by
  unfold cmF
  refine ⟨?_, ?_⟩
  · rw [get_set_ne (by decide), get_set_ne (by decide), get_set_ne (by decide), get_set_ne (by decide)]
    exact get_set (by rw [h]; decide)
  · rw [get_set_ne (by decide), get_set_ne (by decide), get_set_ne (by decide)]
    exact get_set (by rw [List.length_set, h]; decide)
set_option maxHeartbeats 8000000 in
/-- the model's use -/
theorem m_use {l : Launch} {G : GG} {h : AH} {nx : Nat} {Post : Option Value → AH → Nat → Prop} {o c : Nat} {a hd : Int32} {dd : Nat → DD} {fs : List Value} (hX : XC G ∧ TX l G) (hM : MA h o fs) (hS : SHm h o) (hQ : MPs h o fs c dd) (f19 : fs[19]? = some (.int hd)) (hN : inR a c = false → Post (some (.int 0)) h nx) (hE : inR a c = true → a = hd → Post (some (.int 1)) h nx) (hP : inR a c = true → a ≠ hd → ∀ (h1 : AH), MA h1 o (cmF fs a) → SHm h1 o → (∀ D : DD, dR D ≤ 6 → MHw h1 o (cmF fs a) D hw0) → (∀ x, x ≠ o → (x < o + 1 + 32 ∨ o + 1 + 35 ≤ x) → h1 x = h x) → Post (some (.int 1)) h1 nx) : Runs l G i_X12_use 0 0 [.ref o, .int a] h nx Post := by
  refine en_X12_use hX [] 40 rfl ?_
  refine Exists.intro _ (And.intro hM.1 (Exists.intro 0 (Exists.intro 0 (And.intro (Nat.le_refl _) (And.intro (Nat.le_refl _) (m_isDrawing hX hM hQ ?_))))))
  cases hi : inR a c with
  | false =>
    refine And.intro (fun cz => by first | exact absurd cz (by decide) | exact absurd (by decide) cz) (fun _ => ?_)
    exact And.intro rfl ((hN hi))
  | true =>
    refine And.intro (fun _ => ?_) (fun cz => by first | exact absurd cz (by decide) | exact absurd (by decide) cz)
    refine Exists.intro _ (And.intro hM.1 (Exists.intro _ (And.intro f19 ?_)))
    by_cases e : a = hd
    · refine And.intro (fun _ => ?_) (fun cz => absurd (e) cz)
      exact And.intro rfl ((hE hi e))
    · refine And.intro (fun cz => absurd cz (e)) (fun _ => ?_)
      refine Exists.intro _ (And.intro hM.1 (Exists.intro 0 (Exists.intro 0 (And.intro (Nat.le_refl _) (And.intro (Nat.le_refl _) (m_comes hX hM hS (fun h1 x1 x2 x3 x4 => ?_)))))))
      exact And.intro rfl ((hP hi e h1 x1 x2 x3 x4))
theorem MA.stK {h : AH} {o k : Nat} {fs : List Value} {v : Value} (hM : MA h o fs) (hk : ∀ j, j < 63 → rfM j ≠ k) : MA (uph h o (.inr (12, fs.set k v))) o (fs.set k v) := ⟨uph_eq, by rw [List.length_set]; exact hM.2.1, fun j hj => by
  rw [get_set_ne (hk j hj).symm]
  exact hM.2.2 j hj⟩
/-- the fields when a text has been cut, and c drawings are there -/
def rdF (fs : List Value) (c : Nat) : List Value := (((((((fs.set 11 (.int 0)).set 12 (.int 0)).set 13 (.int 0)).set 15 (.int 0)).set 20 (.int (nI c))).set 41 (.int (nI (420 * c)))).set 43 (.int (nI (420 * c)))).set 45 (.int 0)
theorem rdF_k {fs : List Value} {c k : Nat} (h : k ≠ 11 ∧ k ≠ 12 ∧ k ≠ 13 ∧ k ≠ 15 ∧ k ≠ 20 ∧ k ≠ 41 ∧ k ≠ 43 ∧ k ≠ 45) : (rdF fs c)[k]? = fs[k]? := by
  unfold rdF
  rw [get_set_ne (by omega), get_set_ne (by omega), get_set_ne (by omega), get_set_ne (by omega), get_set_ne (by omega), get_set_ne (by omega), get_set_ne (by omega), get_set_ne (by omega)]
theorem rdF_l {fs : List Value} {c : Nat} (h : fs.length = 99) : (rdF fs c).length = 99 ∧ (rdF fs c)[11]? = some (.int 0) ∧ (rdF fs c)[12]? = some (.int 0) ∧ (rdF fs c)[13]? = some (.int 0) ∧ (rdF fs c)[15]? = some (.int 0) ∧ (rdF fs c)[20]? = some (.int (nI c)) ∧ (rdF fs c)[41]? = some (.int (nI (420 * c))) ∧ (rdF fs c)[43]? = some (.int (nI (420 * c))) ∧ (rdF fs c)[45]? = some (.int 0) := by
  unfold rdF
  refine ⟨?_, ?_, ?_, ?_, ?_, ?_, ?_, ?_, ?_⟩
  · simp only [List.length_set]; exact h
  all_goals simp [List.getElem?_set, h]
/-- the heap of a page that is empty yet -/
def pgE (h : AH) (o c : Nat) (g7 g10 g13 g16 g18 : Nat → Int32) : AH := uph (uph (uph (uph (uph h (o + 1 + 7) (.inl (0, 5, .inl (upd g7 c 0)))) (o + 1 + 10) (.inl (0, 5, .inl (upd g10 c 0)))) (o + 1 + 13) (.inl (0, 5, .inl (upd g13 c 0)))) (o + 1 + 16) (.inl (0, 5, .inl (upd g16 c 0)))) (o + 1 + 18) (.inl (0, 5, .inl (upd g18 c 0)))
/-- what a read leaves, whatever it found: the rows that stay, the pages below c -/
def MRx (o c : Nat) (h : AH) (fs : List Value) (h1 : AH) (fs1 : List Value) : Prop := MA h1 o fs1 ∧ SHm h1 o ∧ (∀ k, (k < 2 ∨ k = 3 ∨ (18 ≤ k ∧ k ≠ 20 ∧ k ≠ 41 ∧ k ≠ 43 ∧ k ≠ 45 ∧ k ≠ 49)) → fs1[k]? = fs[k]?) ∧ fs1[2]? = some (.int 0) ∧ (∃ v, fs1[16]? = some (.int v)) ∧ (∃ v, fs1[49]? = some (.int v)) ∧ (∀ x, x ≠ o → (x < o + 1 + 1 ∨ x = o + 1 + 6 ∨ o + 1 + 32 ≤ x) → h1 x = h x) ∧ (∀ j, 7 ≤ j → j < 29 → rowZ (h (o + 1 + j)) (h1 (o + 1 + j)) (stR j * c)) ∧ (B8 (h (o + 1 + 8)) → B8 (h1 (o + 1 + 8)))
/-- the end: an empty page -/
theorem BSt_0 {u : Nat → Nat} {n o d N wg : Nat} {h : AH} {fs : List Value} {wp : Int32} {g7 g10 g13 g16 g18 : Nat → Int32} (P : PRs h o fs ((0, 0, 420 * d, 420 * d), (0, wg, 0, wp))) (e7 : h (o + 1 + 7) = some (.inl (0, 5, .inl (upd g7 d 0)))) (e10 : h (o + 1 + 10) = some (.inl (0, 5, .inl (upd g10 d 0)))) (e13 : h (o + 1 + 13) = some (.inl (0, 5, .inl (upd g13 d 0)))) (e16 : h (o + 1 + 16) = some (.inl (0, 5, .inl (upd g16 d 0)))) (e18 : h (o + 1 + 18) = some (.inl (0, 5, .inl (upd g18 d 0)))) : BSt u n o d N h fs h fs 0 := by
  have S := P.2.1
  obtain ⟨g8, e8⟩ := S.i 8 (by decide) (by decide) rfl
  obtain ⟨g9, e9⟩ : ∃ g : Nat → Int64, h (o + 1 + 9) = some (.inl (1, 25, .inr (.inl g))) := S 9 (by decide)
  obtain ⟨g11, e11⟩ := S.i 11 (by decide) (by decide) rfl
  obtain ⟨g12, e12⟩ : ∃ g : Nat → Int64, h (o + 1 + 12) = some (.inl (1, 30, .inr (.inl g))) := S 12 (by decide)
  obtain ⟨g14, e14⟩ := S.i 14 (by decide) (by decide) rfl
  obtain ⟨g15, e15⟩ : ∃ g : Nat → Int64, h (o + 1 + 15) = some (.inl (1, 25, .inr (.inl g))) := S 15 (by decide)
  obtain ⟨g17, e17⟩ := S.i 17 (by decide) (by decide) rfl
  obtain ⟨g19, e19⟩ := S.i 19 (by decide) (by decide) rfl
  obtain ⟨g21, e21⟩ := S.i 21 (by decide) (by decide) rfl
  obtain ⟨g22, e22⟩ := S.i 22 (by decide) (by decide) rfl
  obtain ⟨g23, e23⟩ := S.i 23 (by decide) (by decide) rfl
  obtain ⟨g24, e24⟩ := S.i 24 (by decide) (by decide) rfl
  obtain ⟨g25, e25⟩ := S.i 25 (by decide) (by decide) rfl
  obtain ⟨g26, e26⟩ := S.i 26 (by decide) (by decide) rfl
  obtain ⟨g27, e27⟩ := S.i 27 (by decide) (by decide) rfl
  obtain ⟨g28, e28⟩ : ∃ g : Nat → Int64, h (o + 1 + 28) = some (.inl (1, 2100, .inr (.inl g))) := S 28 (by decide)
  obtain ⟨g29, e29⟩ := S.i 29 (by decide) (by decide) rfl
  obtain ⟨g30, e30⟩ := S.i 30 (by decide) (by decide) rfl
  have no : ∀ {i : Nat} {p : Prop}, i < 0 → p := fun z => absurd z (Nat.not_lt_zero _)
  refine ⟨⟨0, wp, ⟨⟨wg, P⟩, FRM.rf o d h fs, ⟨_, g19, g21, g22, g29, g30, e18, e19, e21, e22, e29, e30, pk_us, fun i hi => no hi, fun i hi => no hi⟩, ⟨g27, e27, fun p hp => no hp⟩⟩, Or.inl ⟨rfl, fun i hi => no hi⟩⟩, ⟨_, g8, g8, g9, e7, e8, e9, e8, pk_us, fun i hi => no hi, fun _ _ _ => rfl⟩, ⟨_, g11, g12, e10, e11, e12, pk_us, fun i hi => no hi, fun i hi => no hi, fun k hk => no hk⟩, ⟨_, g14, g15, e13, e14, e15, pk_us, fun i hi => no hi⟩, ⟨_, g17, e16, e17, pk_us, fun i hi => no hi⟩, ⟨g23, g24, g25, g26, g28, e23, e24, e25, e26, e28, fun i hi => no hi, fun i hi => no hi⟩⟩
/-- what a read leaves that has made a drawing -/
def MRy (o c : Nat) (h : AH) (fs : List Value) (h1 : AH) (fs1 : List Value) : Prop := MA h1 o fs1 ∧ SHm h1 o ∧ (∀ k, (k < 2 ∨ k = 3 ∨ (20 < k ∧ k ≠ 41 ∧ k ≠ 43 ∧ k ≠ 45 ∧ k ≠ 49 ∧ k ≠ 50 ∧ k ≠ 51 ∧ k ≠ 55 ∧ k ≠ 84)) → fs1[k]? = fs[k]?) ∧ (fs1[2]? = some (.int 0) ∧ fs1[17]? = some (.int (-1)) ∧ fs1[18]? = some (.int (nI (c + 1))) ∧ fs1[19]? = some (.int (nI c)) ∧ fs1[84]? = some (.int 0)) ∧ (∃ v, fs1[16]? = some (.int v)) ∧ (∃ v, fs1[49]? = some (.int v)) ∧ (∀ x, x ≠ o → (x < o + 1 + 1 ∨ x = o + 1 + 6 ∨ o + 1 + 35 ≤ x) → h1 x = h x) ∧ (∀ j, 7 ≤ j → j < 29 → rowZ (h (o + 1 + j)) (h1 (o + 1 + j)) (stR j * c)) ∧ (B8 (h (o + 1 + 8)) → B8 (h1 (o + 1 + 8)))
theorem SHm.cut {h h1 : AH} {o n m : Nat} {u : Nat → Nat} (hS : SHm h o) (hT : tokM h1 o u n m) (hf : ∀ x, x ≠ o → (x < o + 1 + 2 ∨ o + 1 + 6 ≤ x) → h1 x = h x) : SHm h1 o := by
  obtain ⟨g2, g3, g4, g5, a2, a3, a4, a5, _⟩ := hT
  refine hS.upd (fun j hj => ?_)
  by_cases c : j < 2 ∨ 6 ≤ j
  · exact Or.inl (hf _ (by omega) (by omega))
  · right
    have : j = 2 ∨ j = 3 ∨ j = 4 ∨ j = 5 := by omega
    rcases this with rfl | rfl | rfl | rfl
    · exact ⟨_, a2⟩
    · exact ⟨_, a3⟩
    · exact ⟨_, a4⟩
    · exact ⟨_, a5⟩
set_option maxHeartbeats 16000000 in
set_option maxHeartbeats 8000000 in
theorem m_read {l : Launch} {G : GG} {h : AH} {nx : Nat} {Post : Option Value → AH → Nat → Prop} {o c n N : Nat} {u : Nat → Nat} {g k8 : Nat → Int32} {fs : List Value} {st5 : Nat → Bool} (hX : XC G ∧ TX l G) (hM : MA h o fs) (hS : SHm h o) (hk : mkRow h o) (f18 : fs[18]? = some (.int (nI c))) (hc : c ≤ 4) (f2 : fs[2]? = some (.int (nI n))) (hn : n ≤ 2000) (hr0 : h (o + 1 + 0) = some (.inl (2, 2000, .inl g))) (hg : ∀ i, i < n → g i = bvN (u i)) (hu : ∀ i, u i < 256) (f16 : ∃ v, fs[16]? = some (.int v)) (f49 : ∃ v, fs[49]? = some (.int v)) (hZ : zEnd (kdN u n) N) (e8 : h (o + 1 + 8) = some (.inl (3, 25, .inl k8))) (hst : ∀ k, k < 5 → k8 (5 * c + k) = nI (st5 k).toNat) (hP4 : c = 4 → Post (some (.int (-2))) h nx) (hPb : c < 4 → ∀ (f q : Nat) (h1 : AH) (fs1 : List Value), fltN u n N f q → MRx o c h fs h1 fs1 → fs1[17]? = some (.int (nI q)) → Post (some (.int (nI f))) h1 nx) (hP : c < 4 → (TXT (kdN u n) N ∧ zFt (kdN u n) N = 0) → (∀ i, i < N → fX (kdN u n) (vaN u n) N i = 0) → ∀ (h1 : AH) (fs1 : List Value), MRy o c h fs h1 fs1 → MPg h1 o c (mkD (kdN u n) (vaN u n) N st5) → MPx h1 o c (mkD (kdN u n) (vaN u n) N st5) → (∀ D : DD, dR D ≤ 6 → MHw h1 o fs1 D hw0) → Post (some (.int 0)) h1 nx) : Runs l G i_X12_read 0 0 [.ref o] h nx Post := by
  have hkd := kdN_lt hu n
  by_cases c4 : c = 4
  · refine en_X12_read hX [] 20 rfl ?_
    refine Exists.intro _ (And.intro hM.1 (Exists.intro _ (And.intro f18 ?_)))
    refine And.intro (fun cz => absurd (show nI c = 4 from by rw [c4]; rfl) cz) (fun _ => ?_)
    exact And.intro rfl ((hP4 c4))
  · have c4l : c < 4 := by omega
    have hc5 : c < 5 := by omega
    obtain ⟨v16, f16⟩ := f16
    obtain ⟨v49, f49⟩ := f49
    have M1 := hM.stK (k := 4) (v := .int (nI n)) (fun j hj => by have := rfM_c j hj; omega)
    -- behind the copy
    have rest : ∀ (h1 : AH) (gt : Nat → Int32), (∀ x, x ≠ o + 1 + 1 → h1 x = uph h o (.inr (12, fs.set 4 (.int (nI n)))) x) → h1 (o + 1 + 1) = some (.inl (2, 2000, .inl gt)) → (∀ j, j < n → gt j = bvN (u j)) → Go l G 12 s_X12_read 0 0 Post 47 [(0, .ref o)] [] h1 nx 0 0 := by
      intro h1 gt fr1 r1 hgt
      have MB := M1.keep (fr1 o (by omega))
      have MC := MB.stK (k := 2) (v := .int 0) (fun j hj => by have := rfM_c j hj; omega)
      have SB : SHm h1 o := hS.obj.upd (fun j hj => by
        by_cases e : j = 1
        · right; rw [e]; exact ⟨_, r1⟩
        · left; exact fr1 _ (by omega))
      have SC := SB.obj (e := .inr (12, (fs.set 4 (.int (nI n))).set 2 (.int 0)))
      have l4 : ((fs.set 4 (.int (nI n))).set 2 (.int 0)).length = 99 := MC.2.1
      have kB : ∀ k, k ≠ 2 → k ≠ 4 → ((fs.set 4 (.int (nI n))).set 2 (.int 0))[k]? = fs[k]? := fun k x1 x2 => (get_set_ne (by omega)).trans (get_set_ne (by omega))
      have k2 : ((fs.set 4 (.int (nI n))).set 2 (.int 0))[2]? = some (.int 0) := get_set (by rw [List.length_set, hM.2.1]; decide)
      have k4 : ((fs.set 4 (.int (nI n))).set 2 (.int 0))[4]? = some (.int (nI n)) := (get_set_ne (by decide)).trans (get_set (by rw [hM.2.1]; decide))
      refine Go.of hX.2 ck_X12_read [163] 160 ?_
      refine Exists.intro _ (And.intro MB.1 (And.intro (by rw [MB.2.1]; decide) (And.intro rfl (And.intro rfl ?_))))
      refine Exists.intro _ (And.intro MC.1 (Exists.intro 0 (Exists.intro 0 (And.intro (Nat.le_refl _) (And.intro (Nat.le_refl _) (m_cut (u := u) hX MC SC k4 ⟨2000, gt, (uph_ne (by omega)).trans r1, ⟨hn, by decide⟩, hgt⟩ (Exists.elim hk (fun gg z => ⟨gg, (uph_ne (by omega)).trans ((fr1 _ (by omega)).trans ((uph_ne (by omega)).trans z.1)), z.2⟩)) hu hn (fun h2 fs2 R hE => ?_)))))))
      obtain ⟨m, hm, hT, hE⟩ := hE
      have hE : tkEnd u n m := hE
      obtain ⟨A0, R2, R3⟩ := R
      have S2 : SHm h2 o := SC.cut hT R3
      have hx2 : ∀ x, x ≠ o → (x < o + 1 + 1 ∨ o + 1 + 6 ≤ x) → h2 x = h x := fun x x1 x2 => (R3 x x1 (by omega)).trans ((uph_ne x1).trans ((fr1 x (by omega)).trans (uph_ne x1)))
      obtain ⟨g7, e7⟩ := S2.i 7 (by decide) (by decide) rfl
      obtain ⟨g10, e10⟩ := S2.i 10 (by decide) (by decide) rfl
      obtain ⟨g13, e13⟩ := S2.i 13 (by decide) (by decide) rfl
      obtain ⟨g16, e16⟩ := S2.i 16 (by decide) (by decide) rfl
      obtain ⟨g18, e18⟩ := S2.i 18 (by decide) (by decide) rfl
      have q18 : fs2[18]? = some (.int (nI c)) := (R2 18 (by decide)).trans ((kB 18 (by decide) (by decide)).trans f18)
      have A1 := A0.pst (k := 11) (v := .int 0) (by omega)
      have A2 := A1.pst (k := 12) (v := .int 0) (by omega)
      have A3 := A2.pst (k := 13) (v := .int 0) (by omega)
      have A4 := A3.pst (k := 15) (v := .int 0) (by omega)
      have A5 := A4.stK (k := 20) (v := .int (nI c)) (fun j hj => by have := rfM_c j hj; omega)
      have q20 : (((((fs2.set 11 (.int 0)).set 12 (.int 0)).set 13 (.int 0)).set 15 (.int 0)).set 20 (.int (nI c)))[20]? = some (.int (nI c)) := get_set (by rw [A4.2.1]; decide)
      refine Exists.intro _ (And.intro A0.1 (And.intro (by rw [A0.2.1]; decide) (And.intro rfl (And.intro rfl ?_))))
      refine Exists.intro _ (And.intro A1.1 (And.intro (by rw [A1.2.1]; decide) (And.intro rfl (And.intro rfl ?_))))
      refine Exists.intro _ (And.intro A2.1 (And.intro (by rw [A2.2.1]; decide) (And.intro rfl (And.intro rfl ?_))))
      refine Exists.intro _ (And.intro A3.1 (And.intro (by rw [A3.2.1]; decide) (And.intro rfl (And.intro rfl ?_))))
      refine Exists.intro _ (And.intro A4.1 (Exists.intro _ (And.intro ((get_set_ne (by decide)).trans ((get_set_ne (by decide)).trans ((get_set_ne (by decide)).trans ((get_set_ne (by decide)).trans q18)))) ?_)))
      refine Exists.intro _ (And.intro A4.1 (And.intro (by rw [A4.2.1]; decide) (And.intro rfl (And.intro rfl ?_))))
      have fr5 : ∀ x, x ≠ o → (uph (uph (uph (uph (uph h2 o (.inr (12, fs2.set 11 (.int 0)))) o (.inr (12, (fs2.set 11 (.int 0)).set 12 (.int 0)))) o (.inr (12, ((fs2.set 11 (.int 0)).set 12 (.int 0)).set 13 (.int 0)))) o (.inr (12, (((fs2.set 11 (.int 0)).set 12 (.int 0)).set 13 (.int 0)).set 15 (.int 0)))) o (.inr (12, ((((fs2.set 11 (.int 0)).set 12 (.int 0)).set 13 (.int 0)).set 15 (.int 0)).set 20 (.int (nI c))))) x = h2 x := fun x hx => (uph_ne hx).trans ((uph_ne hx).trans ((uph_ne hx).trans ((uph_ne hx).trans (uph_ne hx))))
      generalize hh5 : uph (uph (uph (uph (uph h2 o (.inr (12, fs2.set 11 (.int 0)))) o (.inr (12, (fs2.set 11 (.int 0)).set 12 (.int 0)))) o (.inr (12, ((fs2.set 11 (.int 0)).set 12 (.int 0)).set 13 (.int 0)))) o (.inr (12, (((fs2.set 11 (.int 0)).set 12 (.int 0)).set 13 (.int 0)).set 15 (.int 0)))) o (.inr (12, ((((fs2.set 11 (.int 0)).set 12 (.int 0)).set 13 (.int 0)).set 15 (.int 0)).set 20 (.int (nI c)))) = h5 at A5 fr5
      have S5 : SHm h5 o := S2.upd (fun j hj => Or.inl (fr5 _ (by omega)))
      have B1 : MA (uph h5 (o + 1 + 7) (.inl (0, 5, .inl (upd g7 c 0)))) o _ := A5.keep (uph_ne (by omega))
      have B2 : MA (uph (uph h5 (o + 1 + 7) (.inl (0, 5, .inl (upd g7 c 0)))) (o + 1 + 10) (.inl (0, 5, .inl (upd g10 c 0)))) o _ := B1.keep (uph_ne (by omega))
      have B3 : MA (uph (uph (uph h5 (o + 1 + 7) (.inl (0, 5, .inl (upd g7 c 0)))) (o + 1 + 10) (.inl (0, 5, .inl (upd g10 c 0)))) (o + 1 + 13) (.inl (0, 5, .inl (upd g13 c 0)))) o _ := B2.keep (uph_ne (by omega))
      have B4 : MA (uph (uph (uph (uph h5 (o + 1 + 7) (.inl (0, 5, .inl (upd g7 c 0)))) (o + 1 + 10) (.inl (0, 5, .inl (upd g10 c 0)))) (o + 1 + 13) (.inl (0, 5, .inl (upd g13 c 0)))) (o + 1 + 16) (.inl (0, 5, .inl (upd g16 c 0)))) o _ := B3.keep (uph_ne (by omega))
      have B5 : MA (pgE h5 o c g7 g10 g13 g16 g18) o _ := B4.keep (uph_ne (by omega))
      have B6 := B5.pst (k := 41) (v := .int (nI (420 * c))) (by omega)
      have B7 := B6.pst (k := 43) (v := .int (nI (420 * c))) (by omega)
      have B8' := B7.pst (k := 45) (v := .int 0) (by omega)
      have i420 : (420 : Int32) * nI c = nI (420 * c) := by rw [show (420 : Int32) = nI 420 from rfl, nI_mul]
      have k20b : ((((((fs2.set 11 (.int 0)).set 12 (.int 0)).set 13 (.int 0)).set 15 (.int 0)).set 20 (.int (nI c))).set 41 (.int (nI (420 * c))))[20]? = some (.int (nI c)) := (get_set_ne (by decide)).trans q20
      refine Exists.intro _ (And.intro A5.1 (Exists.intro _ (And.intro (A5.2.2 7 (by decide)) ?_)))
      refine Exists.intro _ (And.intro A5.1 (Exists.intro _ (And.intro q20 ?_)))
      refine Exists.intro _ (Exists.intro _ (And.intro ((fr5 _ (by omega)).trans e7) (And.intro (vp_in_nI hc5 (by decide)) ?_)))
      rw [nI_clamp (show c < 2 ^ 31 by omega)]
      refine Exists.intro _ (And.intro B1.1 (Exists.intro _ (And.intro (A5.2.2 10 (by decide)) ?_)))
      refine Exists.intro _ (And.intro B1.1 (Exists.intro _ (And.intro q20 ?_)))
      refine Exists.intro _ (Exists.intro _ (And.intro ((uph_ne (by omega)).trans ((fr5 _ (by omega)).trans e10)) (And.intro (vp_in_nI hc5 (by decide)) ?_)))
      rw [nI_clamp (show c < 2 ^ 31 by omega)]
      refine Exists.intro _ (And.intro B2.1 (Exists.intro _ (And.intro (A5.2.2 13 (by decide)) ?_)))
      refine Exists.intro _ (And.intro B2.1 (Exists.intro _ (And.intro q20 ?_)))
      refine Exists.intro _ (Exists.intro _ (And.intro ((uph_ne (by omega)).trans ((uph_ne (by omega)).trans ((fr5 _ (by omega)).trans e13))) (And.intro (vp_in_nI hc5 (by decide)) ?_)))
      rw [nI_clamp (show c < 2 ^ 31 by omega)]
      refine Exists.intro _ (And.intro B3.1 (Exists.intro _ (And.intro (A5.2.2 16 (by decide)) ?_)))
      refine Exists.intro _ (And.intro B3.1 (Exists.intro _ (And.intro q20 ?_)))
      refine Exists.intro _ (Exists.intro _ (And.intro ((uph_ne (by omega)).trans ((uph_ne (by omega)).trans ((uph_ne (by omega)).trans ((fr5 _ (by omega)).trans e16)))) (And.intro (vp_in_nI hc5 (by decide)) ?_)))
      rw [nI_clamp (show c < 2 ^ 31 by omega)]
      refine Exists.intro _ (And.intro B4.1 (Exists.intro _ (And.intro (A5.2.2 18 (by decide)) ?_)))
      refine Exists.intro _ (And.intro B4.1 (Exists.intro _ (And.intro q20 ?_)))
      refine Exists.intro _ (Exists.intro _ (And.intro ((uph_ne (by omega)).trans ((uph_ne (by omega)).trans ((uph_ne (by omega)).trans ((uph_ne (by omega)).trans ((fr5 _ (by omega)).trans e18))))) (And.intro (vp_in_nI hc5 (by decide)) ?_)))
      rw [nI_clamp (show c < 2 ^ 31 by omega)]
      refine Exists.intro _ (And.intro B5.1 (Exists.intro _ (And.intro q20 ?_)))
      refine Exists.intro _ (And.intro B5.1 (And.intro (by rw [B5.2.1]; decide) (And.intro rfl (And.intro rfl ?_))))
      rw [i420]
      refine Exists.intro _ (And.intro B6.1 (Exists.intro _ (And.intro k20b ?_)))
      refine Exists.intro _ (And.intro B6.1 (And.intro (by rw [B6.2.1]; decide) (And.intro rfl (And.intro rfl ?_))))
      rw [i420]
      refine Exists.intro _ (And.intro B7.1 (And.intro (by rw [B7.2.1]; decide) (And.intro rfl (And.intro rfl ?_))))
      -- the state ahead of the statements
      have fr6 : ∀ x, x ≠ o → x ≠ o + 1 + 7 → x ≠ o + 1 + 10 → x ≠ o + 1 + 13 → x ≠ o + 1 + 16 → x ≠ o + 1 + 18 → pgE h5 o c g7 g10 g13 g16 g18 x = h2 x := fun x x0 x1 x2 x3 x4 x5 => (uph_ne x5).trans ((uph_ne x4).trans ((uph_ne x3).trans ((uph_ne x2).trans ((uph_ne x1).trans (fr5 x x0)))))
      have p7 : pgE h5 o c g7 g10 g13 g16 g18 (o + 1 + 7) = some (.inl (0, 5, .inl (upd g7 c 0))) := (uph_ne (by omega)).trans ((uph_ne (by omega)).trans ((uph_ne (by omega)).trans ((uph_ne (by omega)).trans uph_eq)))
      have p10 : pgE h5 o c g7 g10 g13 g16 g18 (o + 1 + 10) = some (.inl (0, 5, .inl (upd g10 c 0))) := (uph_ne (by omega)).trans ((uph_ne (by omega)).trans ((uph_ne (by omega)).trans uph_eq))
      have p13 : pgE h5 o c g7 g10 g13 g16 g18 (o + 1 + 13) = some (.inl (0, 5, .inl (upd g13 c 0))) := (uph_ne (by omega)).trans ((uph_ne (by omega)).trans uph_eq)
      have p16 : pgE h5 o c g7 g10 g13 g16 g18 (o + 1 + 16) = some (.inl (0, 5, .inl (upd g16 c 0))) := (uph_ne (by omega)).trans uph_eq
      have p18 : pgE h5 o c g7 g10 g13 g16 g18 (o + 1 + 18) = some (.inl (0, 5, .inl (upd g18 c 0))) := uph_eq
      have S6 : SHm (pgE h5 o c g7 g10 g13 g16 g18) o := ((((S5.row1 (j := 7) (rowS_i (by decide) rfl ⟨_, rfl⟩)).row1 (j := 10) (rowS_i (by decide) rfl ⟨_, rfl⟩)).row1 (j := 13) (rowS_i (by decide) rfl ⟨_, rfl⟩)).row1 (j := 16) (rowS_i (by decide) rfl ⟨_, rfl⟩)).row1 (j := 18) (rowS_i (by decide) rfl ⟨_, rfl⟩)
      have frH : ∀ x, x ≠ o → uph (uph (uph (pgE h5 o c g7 g10 g13 g16 g18) o (.inr (12, (((((fs2.set 11 (.int 0)).set 12 (.int 0)).set 13 (.int 0)).set 15 (.int 0)).set 20 (.int (nI c))).set 41 (.int (nI (420 * c)))))) o (.inr (12, ((((((fs2.set 11 (.int 0)).set 12 (.int 0)).set 13 (.int 0)).set 15 (.int 0)).set 20 (.int (nI c))).set 41 (.int (nI (420 * c)))).set 43 (.int (nI (420 * c)))))) o (.inr (12, rdF fs2 c)) x = pgE h5 o c g7 g10 g13 g16 g18 x := fun x hx => (uph_ne hx).trans ((uph_ne hx).trans (uph_ne hx))
      have MH0 : MA (uph (uph (uph (pgE h5 o c g7 g10 g13 g16 g18) o (.inr (12, (((((fs2.set 11 (.int 0)).set 12 (.int 0)).set 13 (.int 0)).set 15 (.int 0)).set 20 (.int (nI c))).set 41 (.int (nI (420 * c)))))) o (.inr (12, ((((((fs2.set 11 (.int 0)).set 12 (.int 0)).set 13 (.int 0)).set 15 (.int 0)).set 20 (.int (nI c))).set 41 (.int (nI (420 * c)))).set 43 (.int (nI (420 * c)))))) o (.inr (12, rdF fs2 c))) o (rdF fs2 c) := B8'
      have gl : ∀ (H : AH), (∀ x, x ≠ o → H x = pgE h5 o c g7 g10 g13 g16 g18 x) → MA H o (rdF fs2 c) → Go l G 12 s_X12_read 0 0 Post 163 [(0, .ref o)] [] H nx 0 0 := by
        intro H frH MH0
        have SH : SHm H o := S6.upd (fun j hj => Or.inl (frH _ (by omega)))
        have TH : tokM H o u n m := hT.ag (fun x x1 x2 => (frH x (by omega)).trans (fr6 x (by omega) (by omega) (by omega) (by omega) (by omega) (by omega)))
        obtain ⟨rl, r11, r12, r13, r15, r20, r41, r43, r45⟩ := rdF_l (c := c) A0.2.1
        obtain ⟨wg, ewg⟩ := nI_any v49
        have q16 : (rdF fs2 c)[16]? = some (.int v16) := (rdF_k (by decide)).trans ((R2 16 (by decide)).trans ((kB 16 (by decide) (by decide)).trans f16))
        have q49 : (rdF fs2 c)[49]? = some (.int (nI wg)) := (rdF_k (by decide)).trans ((R2 49 (by decide)).trans ((kB 49 (by decide) (by decide)).trans (by rw [← ewg]; exact f49)))
        have P0 : PRs H o (rdF fs2 c) ((0, 0, 420 * c, 420 * c), (0, wg, 0, v16)) := ⟨MH0, SH, r13, r11, r12, r41, r43, r45, q49, r15, q16⟩
        have B0 : BSt u n o c N H (rdF fs2 c) H (rdF fs2 c) 0 := BSt_0 P0 ((frH _ (by omega)).trans p7) ((frH _ (by omega)).trans p10) ((frH _ (by omega)).trans p13) ((frH _ (by omega)).trans p16) ((frH _ (by omega)).trans p18)
        have T00 : TXT (kdN u n) 0 := ⟨hkd, fun j hj => absurd hj (Nat.not_lt_zero j), rfl⟩
        have e8H : H (o + 1 + 8) = some (.inl (3, 25, .inl k8)) := (frH _ (by omega)).trans ((fr6 _ (by omega) (by omega) (by omega) (by omega) (by omega) (by omega)).trans ((hx2 _ (by omega) (by omega)).trans e8))
        -- what is left
        have zH : ∀ j, 7 ≤ j → j < 29 → rowZ (h (o + 1 + j)) (H (o + 1 + j)) (stR j * c) := fun j j1 j2 => by
          have ej : h2 (o + 1 + j) = h (o + 1 + j) := hx2 _ (by omega) (by omega)
          by_cases c7 : j = 7
          · subst c7
            exact rowZ.u (ej.symm.trans e7) ((frH _ (by omega)).trans p7) (show 1 * c ≤ c by omega)
          · by_cases c10 : j = 10
            · subst c10
              exact rowZ.u (ej.symm.trans e10) ((frH _ (by omega)).trans p10) (show 1 * c ≤ c by omega)
            · by_cases c13 : j = 13
              · subst c13
                exact rowZ.u (ej.symm.trans e13) ((frH _ (by omega)).trans p13) (show 1 * c ≤ c by omega)
              · by_cases c16 : j = 16
                · subst c16
                  exact rowZ.u (ej.symm.trans e16) ((frH _ (by omega)).trans p16) (show 1 * c ≤ c by omega)
                · by_cases c18 : j = 18
                  · subst c18
                    exact rowZ.u (ej.symm.trans e18) ((frH _ (by omega)).trans p18) (show 1 * c ≤ c by omega)
                  · exact Or.inl ((frH _ (by omega)).trans ((fr6 _ (by omega) (by omega) (by omega) (by omega) (by omega) (by omega)).trans ej))
        have left : ∀ (h3 : AH) (fs3 : List Value), MA h3 o fs3 → SHm h3 o → FRM o c H (rdF fs2 c) h3 fs3 → (∀ k, (k < 2 ∨ k = 3 ∨ (18 ≤ k ∧ k ≠ 20 ∧ k ≠ 41 ∧ k ≠ 43 ∧ k ≠ 45 ∧ k ≠ 49)) → fs3[k]? = fs[k]?) ∧ fs3[2]? = some (.int 0) ∧ (∀ x, x ≠ o → (x < o + 1 + 1 ∨ x = o + 1 + 6 ∨ o + 1 + 32 ≤ x) → h3 x = h x) ∧ (∀ j, 7 ≤ j → j < 29 → rowZ (h (o + 1 + j)) (h3 (o + 1 + j)) (stR j * c)) ∧ (B8 (h (o + 1 + 8)) → B8 (h3 (o + 1 + 8))) := fun h3 fs3 _ _ hF => by
          refine ⟨fun k hk => ?_, ?_, fun x x1 x2 => ?_, fun j j1 j2 => (zH j j1 j2).tr (hF.2.2.1 j j1 j2), fun z => hF.2.2.2 ?_⟩
          · rw [hF.1 k (by omega), rdF_k (by omega), R2 k (by omega)]
            exact kB k (by omega) (by omega)
          · rw [hF.1 2 (by omega), rdF_k (by decide), R2 2 (by decide)]
            exact k2
          · rw [hF.2.1 x x1 (by omega), frH x x1, fr6 x x1 (by omega) (by omega) (by omega) (by omega) (by omega)]
            exact hx2 x x1 (by omega)
          · rw [e8H]; rw [e8] at z; exact z
        have mrx : ∀ (h3 : AH) (fs3 : List Value) (v : Value), MA h3 o fs3 → SHm h3 o → FRM o c H (rdF fs2 c) h3 fs3 → (∃ v, fs3[16]? = some (.int v)) → (∃ v, fs3[49]? = some (.int v)) → MRx o c h fs (uph h3 o (.inr (12, fs3.set 17 v))) (fs3.set 17 v) := fun h3 fs3 v x1 x2 x3 x4 x5 => by
          obtain ⟨y1, y2, y3, y4, y5⟩ := left h3 fs3 x1 x2 x3
          refine ⟨x1.stK (fun j hj => by have := rfM_c j hj; omega), x2.obj, fun k hk => (get_set_ne (by omega)).trans (y1 k hk), (get_set_ne (by decide)).trans y2, ?_, ?_, fun x x1 x2 => (uph_ne x1).trans (y3 x x1 x2), fun j j1 j2 => by rw [uph_ne (by omega)]; exact y4 j j1 j2, fun z => by rw [uph_ne (by omega)]; exact y5 z⟩
          · obtain ⟨w, e⟩ := x4
            exact ⟨w, (get_set_ne (by decide)).trans e⟩
          · obtain ⟨w, e⟩ := x5
            exact ⟨w, (get_set_ne (by decide)).trans e⟩
        -- a fault
        have bad : ∀ (h3 : AH) (fs3 : List Value), PFl h3 o fs3 (zFt (kdN u n) N) (plN u n N) → FRM o c H (rdF fs2 c) h3 fs3 → Go l G 12 s_X12_read 0 0 Post 163 [(0, .ref o)] [] h3 nx 0 0 := by
          intro h3 fs3 x1 x2
          have fb := x1.2.2.2.2
          obtain ⟨_, _, c13, c14, f0, f5, tt, _, _, _, ⟨w49, c49⟩, _, _, w16, c16⟩ := id x1
          have n0 : ¬ nI (zFt (kdN u n) N) = 0 := fun z => by
            have := (nI_eq (a := zFt (kdN u n) N) (b := 0) (by omega) (by omega)).mp z
            omega
          have ng : ¬ nI (zFt (kdN u n) N) ≤ 0 := nI_ge (a := 0) f0 (by omega)
          have mx := mrx h3 fs3 (.int (nI (plN u n N))) x1.1 x1.2.1 x2 ⟨w16, c16⟩ ⟨w49, c49⟩
          have c13b : (fs3.set 17 (.int (nI (plN u n N))))[13]? = some (.int (nI (zFt (kdN u n) N))) := (get_set_ne (by decide)).trans c13
          refine Go.of hX.2 ck_X12_read [] 60 ?_
          refine Exists.intro _ (And.intro x1.1.1 (Exists.intro _ (And.intro c13 ?_)))
          refine And.intro (fun _ => ?_) (fun cz => absurd cz (n0))
          refine Exists.intro _ (And.intro x1.1.1 (Exists.intro _ (And.intro c13 ?_)))
          refine And.intro (fun _ => ?_) (fun cz => absurd cz (n0))
          refine Exists.intro _ (And.intro x1.1.1 (Exists.intro _ (And.intro c13 ?_)))
          refine And.intro (fun cz => absurd cz (ng)) (fun _ => ?_)
          refine Exists.intro _ (And.intro x1.1.1 (Exists.intro _ (And.intro c14 ?_)))
          refine Exists.intro _ (And.intro x1.1.1 (And.intro (by rw [x1.1.2.1]; decide) (And.intro rfl (And.intro rfl ?_))))
          refine Exists.intro _ (And.intro mx.1.1 (Exists.intro _ (And.intro c13b ?_)))
          refine And.intro (fun cz => absurd cz (ng)) (fun _ => ?_)
          refine Exists.intro _ (And.intro mx.1.1 (Exists.intro _ (And.intro c13b ?_)))
          exact And.intro rfl ((hPb c4l _ _ _ _ (Or.inl ⟨by omega, rfl, rfl⟩) mx (get_set (by rw [x1.1.2.1]; decide))))
        have loop : ∀ (k t : Nat) (h3 : AH) (fs3 : List Value), t + k = 402 → t < m → TXT (kdN u n) t → BSt u n o c N H (rdF fs2 c) h3 fs3 t → tokM h3 o u n m → Go l G 12 s_X12_read 0 0 Post 163 [(0, .ref o)] [] h3 nx 0 0 := by
          intro k
          induction k using Nat.strongRecOn with
          | _ k ih =>
            intro t h3 fs3 e htm hX0 hB hT3
            have ih2 : ∀ (t2 : Nat) (h4 : AH) (fs4 : List Value), t < t2 → t2 < m → TXT (kdN u n) t2 → BSt u n o c N H (rdF fs2 c) h4 fs4 t2 → tokM h4 o u n m → Go l G 12 s_X12_read 0 0 Post 163 [(0, .ref o)] [] h4 nx 0 0 := fun t2 h4 fs4 x1 x2 x3 x4 x5 => ih (402 - t2) (by omega) t2 h4 fs4 (by omega) x2 x3 x4 x5
            obtain ⟨⟨wo, wp, ⟨⟨wg3, P3⟩, F3, _⟩, W3⟩, _⟩ := id hB
            have k0 : mkK (kdN u n t) = 0 ↔ kdN u n t = 0 := ⟨fun z => mkK_inj _ (hkd t) 0 (by decide) z, fun z => by rw [z]; rfl⟩
            refine Go.of hX.2 ck_X12_read [163] 90 ?_
            refine Exists.intro _ (And.intro P3.1.1 (Exists.intro _ (And.intro P3.2.2.1 ?_)))
            refine And.intro (fun cz => by first | exact absurd cz (by decide) | exact absurd (by decide) cz) (fun _ => ?_)
            refine Exists.intro _ (And.intro P3.1.1 (Exists.intro 0 (Exists.intro 0 (And.intro (Nat.le_refl _) (And.intro (Nat.le_refl _) (m_is (k := 0) hX P3 hT3 hu htm hm (by decide) ?_))))))
            rw [show decide (mkK (kdN u n ((t, 0, 420 * c + (cG (kdN u n) t).2.length, 420 * c + gCn (kdN u n) t), (wN (kdN u n) t, wg3, wo, wp)).1.1) = 0) = decide (kdN u n t = 0) from decide_eq_decide.mpr k0]
            by_cases ke : kdN u n t = 0
            · have eN : N = t := zEnd_eq hkd hZ hX0.2.1 (Or.inl ke)
              subst eN
              have z0 : zFt (kdN u n) N = 0 := by
                unfold zFt
                rw [if_pos ke, if_pos hX0.2.2]
              rw [decide_eq_true ke]
              refine And.intro (fun _ => ?_) (fun cz => by first | exact absurd cz (by decide) | exact absurd (by decide) cz)
              refine Exists.intro _ (And.intro P3.1.1 (Exists.intro _ (And.intro P3.2.2.1 ?_)))
              refine And.intro (fun cz => by first | exact absurd cz (by decide) | exact absurd (by decide) cz) (fun _ => ?_)
              refine Exists.intro _ (And.intro P3.1.1 (Exists.intro 0 (Exists.intro 0 (And.intro (Nat.le_refl _) (And.intro (Nat.le_refl _) (m_knows hX hB hT3 hu htm hm hn hX0 r20 c4l (fun h4 fs4 wo4 wp4 nmI nmR y1 y2 y3 y4 y5 y6 y7 y8 y9 => ?_)))))))
              obtain ⟨wg4, P4⟩ := y1
              have c15 : fs4[15]? = some (.int (nI wo4)) := P4.2.2.2.2.2.2.2.2.2.1
              have c16 : fs4[16]? = some (.int wp4) := P4.2.2.2.2.2.2.2.2.2.2
              have c49 : fs4[49]? = some (.int (nI wg4)) := P4.2.2.2.2.2.2.2.2.1
              rcases y2 with ⟨w0, all⟩ | ⟨i, i1, i2, i3, i4, i5⟩
              · subst w0
                have mx := mrx h4 fs4 (.int (-1)) P4.1 P4.2.1 y3 ⟨_, c16⟩ ⟨_, c49⟩
                obtain ⟨x1, x2, x3, x4, x5, x6, x7, x8, x9⟩ := id mx
                have l17 : (fs4.set 17 (.int (-1))).length = 99 := x1.2.1
                have M5 := x1.stK (k := 18) (v := .int (nI (c + 1))) (fun j hj => by have := rfM_c j hj; omega)
                have S5b := x2.obj (e := .inr (12, (fs4.set 17 (.int (-1))).set 18 (.int (nI (c + 1)))))
                have q13 : (fs4.set 17 (.int (-1)))[13]? = some (.int 0) := (get_set_ne (by decide)).trans P4.2.2.1
                have q15 : (fs4.set 17 (.int (-1)))[15]? = some (.int (nI 0)) := (get_set_ne (by decide)).trans c15
                have q18b : (fs4.set 17 (.int (-1)))[18]? = some (.int (nI c)) := (x3 18 (by omega)).trans f18
                have q20c : ((fs4.set 17 (.int (-1))).set 18 (.int (nI (c + 1))))[20]? = some (.int (nI c)) := (get_set_ne (by decide)).trans ((get_set_ne (by decide)).trans ((y3.1 20 (by omega)).trans r20))
                refine Exists.intro _ (And.intro P4.1.1 (Exists.intro _ (And.intro P4.2.2.1 ?_)))
                refine And.intro (fun _ => ?_) (fun cz => by first | exact absurd cz (by decide) | exact absurd (by decide) cz)
                refine Exists.intro _ (And.intro P4.1.1 (Exists.intro _ (And.intro c15 ?_)))
                refine And.intro (fun _ => ?_) (fun cz => by first | exact absurd cz (by decide) | exact absurd (by decide) cz)
                refine Exists.intro _ (And.intro P4.1.1 (And.intro (by rw [P4.1.2.1]; decide) (And.intro rfl (And.intro rfl ?_))))
                refine Exists.intro _ (And.intro x1.1 (Exists.intro _ (And.intro q13 ?_)))
                refine And.intro (fun _ => ?_) (fun cz => by first | exact absurd cz (by decide) | exact absurd (by decide) cz)
                refine Exists.intro _ (And.intro x1.1 (Exists.intro _ (And.intro q15 ?_)))
                refine And.intro (fun _ => ?_) (fun cz => by first | exact absurd cz (by decide) | exact absurd (by decide) cz)
                refine Exists.intro _ (And.intro x1.1 (Exists.intro _ (And.intro q18b ?_)))
                refine Exists.intro _ (And.intro x1.1 (And.intro (by rw [l17]; decide) (And.intro rfl (And.intro rfl ?_))))
                rw [show nI c + 1 = nI (c + 1) from (nI_succ c).symm]
                refine Exists.intro _ (And.intro M5.1 (Exists.intro _ (And.intro q20c ?_)))
                refine Exists.intro _ (And.intro M5.1 (Exists.intro 0 (Exists.intro 0 (And.intro (Nat.le_refl _) (And.intro (Nat.le_refl _) (m_comes hX M5 S5b (fun h6 v1 v2 v3 v4 => ?_)))))))
                have l18 : ((fs4.set 17 (.int (-1))).set 18 (.int (nI (c + 1)))).length = 99 := M5.2.1
                have fr6b : ∀ x, x ≠ o → (x < o + 1 + 32 ∨ o + 1 + 35 ≤ x) → h6 x = h4 x := fun x e1 e2 => (v4 x e1 e2).trans ((uph_ne e1).trans (uph_ne e1))
                have pg := page_of (st5 := st5) hu hB (by omega) hX0 c4l all y5 y6 y7 y8 y9 e8H hst
                refine And.intro rfl (hP c4l ⟨hX0, z0⟩ all h6 _ ⟨v1, v2, fun k hk => ?_, ⟨?_, ?_, ?_, (cmF_19 l18).1, (cmF_19 l18).2⟩, ?_, ?_, fun x e1 e2 => ?_, fun j j1 j2 => ?_, fun z => ?_⟩ (pg.1.ag (fun j hj => fr6b _ (by omega) (by omega))) (pg.2.ag (fun j hj => fr6b _ (by omega) (by omega))) v3)
                · rw [cmF_k (by omega), get_set_ne (by omega)]
                  exact x3 k (by omega)
                · rw [cmF_k (by decide), get_set_ne (by decide)]
                  exact x4
                · rw [cmF_k (by decide), get_set_ne (by decide)]
                  exact get_set (by rw [P4.1.2.1]; decide)
                · rw [cmF_k (by decide)]
                  exact get_set (by rw [l17]; decide)
                · obtain ⟨w, e⟩ := x5
                  exact ⟨w, (cmF_k (by decide)).trans ((get_set_ne (by decide)).trans e)⟩
                · obtain ⟨w, e⟩ := x6
                  exact ⟨w, (cmF_k (by decide)).trans ((get_set_ne (by decide)).trans e)⟩
                · exact (v4 x e1 (by omega)).trans ((uph_ne e1).trans (x7 x e1 (by omega)))
                · rw [v4 _ (by omega) (by omega), uph_ne (by omega)]
                  exact x8 j j1 j2
                · rw [v4 _ (by omega) (by omega), uph_ne (by omega)]
                  exact x9 z
              · have wb : wo4 ≤ 5 := by
                  rw [i3]
                  exact fX_le _ _ _ _
                have wo0 : 0 < wo4 := by omega
                have ng : ¬ nI wo4 ≤ 0 := nI_ge (a := 0) wo0 (by omega)
                have mx := mrx h4 fs4 (.int wp4) P4.1 P4.2.1 y3 ⟨_, c16⟩ ⟨_, c49⟩
                have q13 : (fs4.set 17 (.int wp4))[13]? = some (.int 0) := (get_set_ne (by decide)).trans P4.2.2.1
                have q15 : (fs4.set 17 (.int wp4))[15]? = some (.int (nI wo4)) := (get_set_ne (by decide)).trans c15
                refine Exists.intro _ (And.intro P4.1.1 (Exists.intro _ (And.intro P4.2.2.1 ?_)))
                refine And.intro (fun _ => ?_) (fun cz => by first | exact absurd cz (by decide) | exact absurd (by decide) cz)
                refine Exists.intro _ (And.intro P4.1.1 (Exists.intro _ (And.intro c15 ?_)))
                refine And.intro (fun cz => absurd cz (ng)) (fun _ => ?_)
                refine Exists.intro _ (And.intro P4.1.1 (Exists.intro _ (And.intro c16 ?_)))
                refine Exists.intro _ (And.intro P4.1.1 (And.intro (by rw [P4.1.2.1]; decide) (And.intro rfl (And.intro rfl ?_))))
                refine Exists.intro _ (And.intro mx.1.1 (Exists.intro _ (And.intro q13 ?_)))
                refine And.intro (fun _ => ?_) (fun cz => by first | exact absurd cz (by decide) | exact absurd (by decide) cz)
                refine Exists.intro _ (And.intro mx.1.1 (Exists.intro _ (And.intro q15 ?_)))
                refine And.intro (fun cz => absurd cz (ng)) (fun _ => ?_)
                refine Exists.intro _ (And.intro mx.1.1 (Exists.intro _ (And.intro q15 ?_)))
                exact And.intro rfl ((hPb c4l _ (plN u n i) _ _ (Or.inr ⟨z0, i, i1, i2, i5, i3, rfl⟩) mx (by rw [i4]; exact get_set (by rw [P4.1.2.1]; decide))))
            · rw [decide_eq_false ke]
              refine And.intro (fun cz => by first | exact absurd cz (by decide) | exact absurd (by decide) cz) (fun _ => ?_)
              refine Exists.intro _ (And.intro P3.1.1 (Exists.intro 0 (Exists.intro 0 (And.intro (Nat.le_refl _) (And.intro (Nat.le_refl _) (m_tellZ hX hB hT3 hu htm hm hn hE hZ hX0 ke r20 c4l (fun h4 fs4 y1 y2 => ?_) (fun t2 h4 fs4 y1 y2 y3 y4 y5 => ?_)))))))
              · exact go_loc (lv' := [(0, .ref o)]) ⟨rfl, trivial⟩ (bad h4 fs4 y1 y2)
              · exact go_loc (lv' := [(0, .ref o)]) ⟨rfl, trivial⟩ (ih2 t2 h4 fs4 y1 y2 y3 y4 y5)
        have m0 : 0 < m := by
          rcases hE with e | ⟨e, e1, _⟩ <;> omega
        exact loop 402 0 H (rdF fs2 c) (by omega) m0 T00 B0 TH
      exact go_loc (lv' := [(0, .ref o)]) ⟨rfl, trivial⟩ (gl _ frH MH0)
    have loopc : ∀ (k i : Nat) (h1 : AH) (gt : Nat → Int32), i + k = n → (∀ x, x ≠ o + 1 + 1 → h1 x = uph h o (.inr (12, fs.set 4 (.int (nI n)))) x) → h1 (o + 1 + 1) = some (.inl (2, 2000, .inl gt)) → (∀ j, j < i → gt j = bvN (u j)) → Go l G 12 s_X12_read 0 0 Post 21 [(1, .int (nI i)), (0, .ref o)] [] h1 nx 0 0 := by
      intro k
      induction k with
      | zero =>
        intro i h1 gt e fr1 r1 hgt
        have e : i = n := by omega
        subst e
        have MB := M1.keep (fr1 o (by omega))
        have k4 : (fs.set 4 (.int (nI i)))[4]? = some (.int (nI i)) := get_set (by rw [hM.2.1]; decide)
        refine Go.of hX.2 ck_X12_read [47] 20 ?_
        refine Exists.intro _ (And.intro MB.1 (Exists.intro _ (And.intro k4 ?_)))
        refine And.intro (fun _ => ?_) (fun cz => absurd (nI_le (Nat.le_refl i) (by omega)) cz)
        exact go_loc (lv' := [(0, .ref o)]) ⟨rfl, trivial⟩ (rest h1 gt fr1 r1 hgt)
      | succ k ih =>
        intro i h1 gt e fr1 r1 hgt
        have MB := M1.keep (fr1 o (by omega))
        have k4 : (fs.set 4 (.int (nI n)))[4]? = some (.int (nI n)) := get_set (by rw [hM.2.1]; decide)
        have r0 : h1 (o + 1 + 0) = some (.inl (2, 2000, .inl g)) := (fr1 _ (by omega)).trans ((uph_ne (by omega)).trans hr0)
        have nxt := ih (i + 1) (uph h1 (o + 1 + 1) (.inl (2, 2000, .inl (upd gt i (bvN (u i)))))) _ (by omega) (fun x hx => (uph_ne hx).trans (fr1 x hx)) uph_eq (fun j hj => by
          by_cases ej : j = i
          · rw [ej, pk_us]
          · rw [pk_un ej]; exact hgt j (by omega))
        rw [nI_succ i] at nxt
        refine Go.of hX.2 ck_X12_read [21] 40 ?_
        refine Exists.intro _ (And.intro MB.1 (Exists.intro _ (And.intro k4 ?_)))
        refine And.intro (fun cz => absurd cz (nI_ge (a := i) (b := n) (by omega) (by omega))) (fun _ => ?_)
        refine Exists.intro _ (And.intro MB.1 (Exists.intro _ (And.intro (MB.2.2 1 (by decide)) ?_)))
        refine Exists.intro _ (And.intro MB.1 (Exists.intro _ (And.intro (MB.2.2 0 (by decide)) ?_)))
        refine Exists.intro 2 (Exists.intro _ (Exists.intro _ (And.intro r0 (And.intro (Or.inl rfl) (And.intro (vp_in_nI (show i < 2000 by omega) (by decide)) ?_)))))
        rw [nI_clamp (show i < 2 ^ 31 by omega), hg i (by omega)]
        refine Exists.intro 2 (Exists.intro _ (Exists.intro _ (And.intro r1 (And.intro (Or.inl rfl) (And.intro (vp_in_nI (show i < 2000 by omega) (by decide)) ?_)))))
        rw [nI_clamp (show i < 2 ^ 31 by omega), bv_nar _ (hu i)]
        exact go_loc (lv' := [(1, .int (nI i + 1)), (0, .ref o)]) ⟨rfl, rfl, trivial⟩ (nxt)
    obtain ⟨gt0, r1⟩ := hS.i 1 (by decide) (by decide) rfl
    refine en_X12_read hX [21] 40 rfl ?_
    refine Exists.intro _ (And.intro hM.1 (Exists.intro _ (And.intro f18 ?_)))
    refine And.intro (fun _ => ?_) (fun cz => absurd cz (fun z => c4 ((nI_eq (a := c) (b := 4) (by omega) (by omega)).mp z)))
    refine Exists.intro _ (And.intro hM.1 (Exists.intro _ (And.intro f2 ?_)))
    refine Exists.intro _ (And.intro hM.1 (And.intro (by rw [hM.2.1]; decide) (And.intro rfl (And.intro rfl ?_))))
    exact go_loc (lv' := [(1, .int (nI 0)), (0, .ref o)]) ⟨rfl, rfl, trivial⟩ (loopc n 0 _ gt0 (Nat.zero_add n) (fun _ _ => rfl) ((uph_ne (by omega)).trans r1) (fun j hj => absurd hj (Nat.not_lt_zero j)))
