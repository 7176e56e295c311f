/-! what is reached by acts, one after the other -/
/-- how many are found, which, from where and by which act, how many races -/
abbrev BS : Type := Nat × (Nat → Nat) × (Nat → Nat × Nat) × Nat
def memB (row : Nat → Nat) (y : Nat) : Nat → Bool
  | 0 => false
  | j + 1 => decide (row j = y) || memB row y j
def upP (f : Nat → Nat × Nat) (i : Nat) (x : Nat × Nat) : Nat → Nat × Nat := fun j => if j = i then x else f j
def bAdd (S : BS) (y k i : Nat) : BS := if memB S.2.1 y S.1 = true then S else (S.1 + 1, upN S.2.1 S.1 y, upP S.2.2.1 S.1 (k, i), S.2.2.2)
/-- the first so many acts at place k, where word x stands -/
def bI (nb : Nat → Nat → Option Nat) (k x : Nat) : Nat → BS → BS
  | 0, S => S
  | i + 1, S => match nb x i with
    | none => ((bI nb k x i S).1, (bI nb k x i S).2.1, (bI nb k x i S).2.2.1, (bI nb k x i S).2.2.2 + 1)
    | some y => bAdd (bI nb k x i S) y k i
/-- the first so many places gone on from -/
def bK (nb : Nat → Nat → Option Nat) (n : Nat) : Nat → BS → BS
  | 0, S => S
  | k + 1, S => if k < (bK nb n k S).1 then bI nb k ((bK nb n k S).2.1 k) n (bK nb n k S) else bK nb n k S
theorem memB_iff {row : Nat → Nat} {y : Nat} : ∀ {n : Nat}, memB row y n = true ↔ ∃ j, j < n ∧ row j = y
  | 0 => ⟨fun h => (by cases h), fun ⟨j, hj, _⟩ => absurd hj (Nat.not_lt_zero j)⟩
  | n + 1 => by
    unfold memB
    rw [Bool.or_eq_true, decide_eq_true_eq, memB_iff]
    constructor
    · rintro (h | ⟨j, hj, h⟩)
      · exact ⟨n, Nat.lt_succ_self n, h⟩
      · exact ⟨j, by omega, h⟩
    · rintro ⟨j, hj, h⟩
      by_cases e : j = n
      · exact Or.inl (e ▸ h)
      · exact Or.inr ⟨j, by omega, h⟩
theorem memB_up {row : Nat → Nat} {x y F : Nat} : memB (upN row F x) y (F + 1) = (decide (x = y) || memB row y F) := by
  have h : ∀ n, n ≤ F → memB (upN row F x) y n = memB row y n := by
    intro n
    induction n with
    | zero => intro _; rfl
    | succ n ih =>
      intro hn
      unfold memB
      rw [ih (by omega), upN_n (by omega)]
  show (decide (upN row F x F = y) || memB (upN row F x) y F) = _
  rw [upN_s, h F (Nat.le_refl F)]
/-- what is found stays -/
theorem bAdd_mono (S : BS) (y k i : Nat) : S.1 ≤ (bAdd S y k i).1 ∧ ∀ j, j < S.1 → (bAdd S y k i).2.1 j = S.2.1 j ∧ (bAdd S y k i).2.2.1 j = S.2.2.1 j := by
  unfold bAdd
  split
  · exact ⟨Nat.le_refl _, fun _ _ => ⟨rfl, rfl⟩⟩
  · exact ⟨Nat.le_succ _, fun j hj => ⟨upN_n (by omega), if_neg (by omega)⟩⟩
theorem bI_mono (nb : Nat → Nat → Option Nat) (k x : Nat) (S : BS) : ∀ i, S.1 ≤ (bI nb k x i S).1 ∧ ∀ j, j < S.1 → (bI nb k x i S).2.1 j = S.2.1 j ∧ (bI nb k x i S).2.2.1 j = S.2.2.1 j
  | 0 => ⟨Nat.le_refl _, fun _ _ => ⟨rfl, rfl⟩⟩
  | i + 1 => by
    have ih := bI_mono nb k x S i
    unfold bI
    split
    · exact ih
    · next y _ =>
      have h2 := bAdd_mono (bI nb k x i S) y k i
      exact ⟨by omega, fun j hj => ⟨(h2.2 j (by omega)).1.trans (ih.2 j hj).1, (h2.2 j (by omega)).2.trans (ih.2 j hj).2⟩⟩
theorem bK_step (nb : Nat → Nat → Option Nat) (n : Nat) (S : BS) (k : Nat) : (bK nb n k S).1 ≤ (bK nb n (k + 1) S).1 ∧ ∀ j, j < (bK nb n k S).1 → (bK nb n (k + 1) S).2.1 j = (bK nb n k S).2.1 j ∧ (bK nb n (k + 1) S).2.2.1 j = (bK nb n k S).2.2.1 j := by
  rw [show bK nb n (k + 1) S = if k < (bK nb n k S).1 then bI nb k ((bK nb n k S).2.1 k) n (bK nb n k S) else bK nb n k S from rfl]
  split
  · exact bI_mono nb k _ _ n
  · exact ⟨Nat.le_refl _, fun _ _ => ⟨rfl, rfl⟩⟩
theorem bK_mono (nb : Nat → Nat → Option Nat) (n : Nat) (S : BS) (k : Nat) : ∀ m, (bK nb n k S).1 ≤ (bK nb n (k + m) S).1 ∧ ∀ j, j < (bK nb n k S).1 → (bK nb n (k + m) S).2.1 j = (bK nb n k S).2.1 j ∧ (bK nb n (k + m) S).2.2.1 j = (bK nb n k S).2.2.1 j
  | 0 => ⟨Nat.le_refl _, fun _ _ => ⟨rfl, rfl⟩⟩
  | m + 1 => by
    have ih := bK_mono nb n S k m
    have h2 := bK_step nb n S (k + m)
    exact ⟨Nat.le_trans ih.1 h2.1, fun j hj => ⟨(h2.2 j (by omega)).1.trans (ih.2 j hj).1, (h2.2 j (by omega)).2.trans (ih.2 j hj).2⟩⟩
/-- behind the last place nothing changes -/
theorem bK_end {nb : Nat → Nat → Option Nat} {n : Nat} {S : BS} {k : Nat} (h : (bK nb n k S).1 ≤ k) : ∀ m, bK nb n (k + m) S = bK nb n k S
  | 0 => rfl
  | m + 1 => by
    have ih := bK_end h m
    rw [show bK nb n (k + (m + 1)) S = if k + m < (bK nb n (k + m) S).1 then bI nb (k + m) ((bK nb n (k + m) S).2.1 (k + m)) n (bK nb n (k + m) S) else bK nb n (k + m) S from rfl, ih, if_neg (by omega)]
/-- the model's rows of what is found -/
def RB (o : Nat) (h : AH) (fs : List Value) (h1 : AH) (fs1 : List Value) (gF gr gf gb : Nat → Int32) (Fn raced : Nat) (wa : Int32) : Prop :=
  MA h1 o fs1 ∧ (∀ k, k ≠ 68 → k ≠ 73 → k ≠ 74 → fs1[k]? = fs[k]?) ∧ fs1[68]? = some (.int (nI Fn)) ∧ fs1[73]? = some (.int (nI raced)) ∧ fs1[74]? = some (.int wa) ∧ h1 (o + 1 + 45) = some (.inl (0, 2048, .inl gr)) ∧ h1 (o + 1 + 46) = some (.inl (0, 2048, .inl gf)) ∧ h1 (o + 1 + 47) = some (.inl (0, 2048, .inl gb)) ∧ h1 (o + 1 + 48) = some (.inl (3, 2048, .inl gF)) ∧ (∃ g : Nat → Int32, h1 (o + 1 + 36) = some (.inl (3, 420, .inl g))) ∧ ∀ a, a ≠ o → a ≠ o + 1 + 36 → a ≠ o + 1 + 45 → a ≠ o + 1 + 46 → a ≠ o + 1 + 47 → a ≠ o + 1 + 48 → h1 a = h a
theorem rfM_no3 : ∀ j, j < 63 → rfM j ≠ 68 ∧ rfM j ≠ 73 ∧ rfM j ≠ 74 := by decide +kernel
set_option maxHeartbeats 4000000 in
theorem c_arrives {l : Launch} {G : GG} {h : AH} {nx : Nat} {Post : Option Value → AH → Nat → Prop} {h0 : AH} {o x Fn raced : Nat} {k act wa : Int32} {gF gr gf gb : Nat → Int32} {fs0 fs : List Value} (hX : XC G ∧ TX l G) (hR : RB o h0 fs0 h fs gF gr gf gb Fn raced wa) (hx : x < 2048) (hF : Fn < 2048) (hP : ∀ (h1 : AH) (fs1 : List Value), RB o h0 fs0 h1 fs1 (upd gF x 1) (upd gr Fn (nI x)) (upd gf Fn k) (upd gb Fn act) (Fn + 1) raced wa → Post none h1 nx) : Runs l G i_X12_arrives 0 0 [.ref o, .int (nI x), .int k, .int act] h nx Post := by
  obtain ⟨hM, a1, a2, a3, a4, a5, a6, a7, a8, a9, a10⟩ := hR
  have e99 := hM.2.1
  refine en_X12_arrives hX [] 60 rfl ?_
  refine Exists.intro _ (And.intro hM.1 (Exists.intro _ (And.intro (hM.2.2 48 (by decide)) ?_)))
  refine Exists.intro 3 (Exists.intro _ (Exists.intro _ (And.intro a8 (And.intro (Or.inr rfl) (And.intro (vp_in_nI hx (by decide)) ?_)))))
  rw [nI_clamp (by omega), show vp_nar (TY 3) 1 = 1 from by decide]
  refine Exists.intro _ (And.intro (by rw [uph_ne (by omega)]; exact hM.1) (Exists.intro _ (And.intro (hM.2.2 45 (by decide)) ?_)))
  refine Exists.intro _ (And.intro (by rw [uph_ne (by omega)]; exact hM.1) (Exists.intro _ (And.intro a2 ?_)))
  refine Exists.intro _ (Exists.intro _ (And.intro (by rw [uph_ne (by omega)]; exact a5) (And.intro (vp_in_nI hF (by decide)) ?_)))
  rw [nI_clamp (by omega)]
  refine Exists.intro _ (And.intro (by rw [uph_ne (by omega), uph_ne (by omega)]; exact hM.1) (Exists.intro _ (And.intro (hM.2.2 46 (by decide)) ?_)))
  refine Exists.intro _ (And.intro (by rw [uph_ne (by omega), uph_ne (by omega)]; exact hM.1) (Exists.intro _ (And.intro a2 ?_)))
  refine Exists.intro _ (Exists.intro _ (And.intro (by rw [uph_ne (by omega), uph_ne (by omega)]; exact a6) (And.intro (vp_in_nI hF (by decide)) ?_)))
  rw [nI_clamp (by omega)]
  refine Exists.intro _ (And.intro (by rw [uph_ne (by omega), uph_ne (by omega), uph_ne (by omega)]; exact hM.1) (Exists.intro _ (And.intro (hM.2.2 47 (by decide)) ?_)))
  refine Exists.intro _ (And.intro (by rw [uph_ne (by omega), uph_ne (by omega), uph_ne (by omega)]; exact hM.1) (Exists.intro _ (And.intro a2 ?_)))
  refine Exists.intro _ (Exists.intro _ (And.intro (by rw [uph_ne (by omega), uph_ne (by omega), uph_ne (by omega)]; exact a7) (And.intro (vp_in_nI hF (by decide)) ?_)))
  rw [nI_clamp (by omega)]
  refine Exists.intro _ (And.intro (by rw [uph_ne (by omega), uph_ne (by omega), uph_ne (by omega), uph_ne (by omega)]; exact hM.1) (Exists.intro _ (And.intro a2 ?_)))
  refine Exists.intro _ (And.intro (by rw [uph_ne (by omega), uph_ne (by omega), uph_ne (by omega), uph_ne (by omega)]; exact hM.1) (And.intro (by omega) (And.intro rfl (And.intro rfl ?_))))
  rw [← nI_succ]
  refine hP _ _ ⟨⟨uph_eq, by rw [List.length_set]; exact e99, fun j hj => by rw [get_set_ne (Ne.symm (rfM_no3 j hj).1)]; exact hM.2.2 j hj⟩, fun q q1 q2 q3 => by rw [get_set_ne (Ne.symm q1)]; exact a1 q q1 q2 q3, get_set (by omega), (get_set_ne (by decide)).trans a3, (get_set_ne (by decide)).trans a4, by rw [uph_ne (by omega), uph_ne (by omega), uph_ne (by omega)]; exact uph_eq, by rw [uph_ne (by omega), uph_ne (by omega)]; exact uph_eq, by rw [uph_ne (by omega)]; exact uph_eq, by rw [uph_ne (by omega), uph_ne (by omega), uph_ne (by omega), uph_ne (by omega)]; exact uph_eq, ?_, fun a x0 x1 x2 x3 x4 x5 => by rw [uph_ne x0, uph_ne x4, uph_ne x3, uph_ne x2, uph_ne x5]; exact a10 a x0 x1 x2 x3 x4 x5⟩
  obtain ⟨g, hg⟩ := a9
  exact ⟨g, by rw [uph_ne (by omega), uph_ne (by omega), uph_ne (by omega), uph_ne (by omega), uph_ne (by omega)]; exact hg⟩
