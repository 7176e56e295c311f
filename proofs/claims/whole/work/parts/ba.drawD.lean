/-! the drawing of a text, as both sides will have it -/
section DRW
variable (kd : Nat → Nat) (vl : Nat → Int64) (N : Nat) (st5 : Nat → Bool)
def tkI (k : Nat) : Nat := fnd N (fun i => decide (zS (zz kd i) = 1) && decide (zI (zz kd i) = k))
def tkR (k : Nat) : Nat := fnd N (fun i => decide (zS (zz kd i) = 3) && decide (zR (zz kd i) = k))
def tkL (k : Nat) : Nat := fnd N (fun i => decide (zS (zz kd i) = 7) && decide (zL (zz kd i) = k))
def tkK (k : Nat) : Nat := fnd N (fun i => (zC (zz kd i) && decide (kd i = 2)) && decide (zK (zz kd i) = k))
def tkX (k : Nat) : Nat := fnd N (fun i => decide (zS (zz kd i) = 8) && decide (zV (zz kd i) = k + 1))
def tkV (k : Nat) : Nat := fnd N (fun i => decide (zS (zz kd i) = 9) && decide (zV (zz kd i) = k + 1)) + 1
def tkC (c : Nat) : Nat := fnd N (fun i => decide (kd i = 13) && decide (ownZ (zz kd i) = c)) + 1
def slP (k i : Nat) : Bool := decide (zS (zz kd i) = 5) && decide (zR (zz kd i) = k + 1)
def slT (k : Nat) : Nat := match (List.range N).find? (slP kd k) with
  | some i => (vl i).toInt.toNat
  | none => 0
/-- how long the circuit from a on is -/
def cLc (a : Nat) : Nat := cLn kd (N - a) a
/-- the sign that the model keeps of a token -/
def sgT (i : Nat) : Int64 := if kd i = 2 then vl i else (-(nI (mkK (kd i)))).toInt64
def thV (r : Option Nat) : Nat := match r with
  | some v => if v < 6 then 10 + v else v - 6
  | none => 0
/-- what a name in a circuit is of -/
def thT (i : Nat) : Nat := thV (zVr kd vl (toL kd N) (vl i))
/-- the names among m tokens from a on -/
def nmL (a m : Nat) : List Nat := (sqL (fun i => i) a m).filter (fun i => decide (kd i = 2))
def trT (k : Nat) : Bool := if k < zI (zz kd N) then decide (zT (zz kd (tkI kd N k)) = 5) else st5 k
def NVt (tr : Nat → Bool) (k on up : Nat) : Bool := CTk (sqL kd (tkV kd N k) (cLc kd N (tkV kd N k))) 0 (fun j => thv tr on up (thT kd vl N ((nmL kd (tkV kd N k) (cLc kd N (tkV kd N k))).getD j 0)) ^^ decide (zS (zz kd ((nmL kd (tkV kd N k) (cLc kd N (tkV kd N k))).getD j 0)) = 11))
def mkD : DD := ((zI (zz kd N), zK (zz kd N), zR (zz kd N), zL (zz kd N), zV (zz kd N)), (fun k => ownZ (zz kd (tkK kd N k)), slT kd vl N, fun k => thT kd vl N (tkK kd N k), fun k => (zG kd vl (toL kd N) (vl (tkX kd N k))).getD 0), (fun k => decide (zS (zz kd (tkK kd N k)) = 11), trT kd N st5, fun k => decide (zT (zz kd (tkL kd N k)) = 9)), (fun c p => cirB (zR (zz kd N)) (zL (zz kd N)) c && CTk (sqL kd (tkC kd N c) (cLc kd N (tkC kd N c))) (zK (zz kd (tkC kd N c))) p), NVt kd vl N (trT kd N st5), (fun k => vl (tkI kd N k), fun k => vl (tkR kd N k), fun k => vl (tkL kd N k)), fun c => sqL (sgT kd vl) (tkC kd N c) (cLc kd N (tkC kd N c)))
end DRW
section TX1
variable {kd : Nat → Nat} {N : Nat}
theorem TXT.s8 (h : TXT kd N) {i : Nat} (hi : i < N) (hs : zS (zz kd i) = 8) : kd i = 2 ∧ zS (zz kd (i + 1)) = 9 ∧ zV (zz kd (i + 1)) = zV (zz kd i) ∧ 1 ≤ zV (zz kd i) ∧ zT (zz kd i) = 10 ∧ i + 1 < N := by
  obtain ⟨s, h1, h2, e, _⟩ := h.st hi
  have c := (zac h2 h1).2.2.2.1 hs
  have w := (h.w (show i ≤ N by omega)).2.2.2.2.2.2.2.2.2.2.2.2.2.1 (Or.inl hs)
  have s9 : zS (zz kd (i + 1)) = 9 := by rw [e, zA_S]; exact c.2
  refine ⟨c.1, s9, by rw [e, zA_V, if_neg (by omega)], (h.p (show i ≤ N by omega)).2.2 (Or.inl hs), w, ?_⟩
  rcases Nat.lt_or_ge (i + 1) N with z | z
  · exact z
  · have e2 : i + 1 = N := by omega
    rw [e2, h.2.2] at s9
    omega
theorem TXT.s9 (h : TXT kd N) {i : Nat} (hi : i < N) (hs : zS (zz kd i) = 9) : kd i = 11 ∧ zS (zz kd (i + 1)) = 10 ∧ zV (zz kd (i + 1)) = zV (zz kd i) ∧ 1 ≤ zV (zz kd i) ∧ zT (zz kd i) = 10 ∧ zT (zz kd (i + 1)) = 10 ∧ zD (zz kd (i + 1)) = 0 := by
  obtain ⟨s, h1, h2, e, _⟩ := h.st hi
  have c := (zac h2 h1).2.1 hs
  obtain ⟨_, _, _, _, _, _, _, _, w9, _, _, _, _, w14, _⟩ := h.w (show i ≤ N by omega)
  refine ⟨c.1, by rw [e, zA_S]; exact c.2, by rw [e, zA_V, if_neg (by omega)], (h.p (show i ≤ N by omega)).2.2 (Or.inr hs), w14 (Or.inr hs), by rw [e, zA_T, if_neg (by omega)]; exact w14 (Or.inr hs), by rw [e, zA_D (by omega), if_neg (by omega), if_neg (by omega)]; exact w9 (by omega)⟩
theorem TXT.s5 (h : TXT kd N) {i : Nat} (hi : i < N) (hs : zS (zz kd i) = 5) : kd i = 3 ∧ 1 ≤ zR (zz kd i) ∧ zT (zz kd i) = 6 := by
  obtain ⟨s, h1, h2, e, _⟩ := h.st hi
  have c := (zac h2 h1).2.2.1 hs
  exact ⟨c.1, (h.p (show i ≤ N by omega)).1 (Or.inr hs), (h.w (show i ≤ N by omega)).2.2.2.2.2.2.2.2.2.2.1 (Or.inr (Or.inr hs))⟩
theorem and2 {a b : Bool} : (a && b) = true ↔ a = true ∧ b = true := Bool.and_eq_true a b ▸ Iff.rfl
theorem tkI_c (h : TXT kd N) {i : Nat} (hi : i < N) (hs : zS (zz kd i) = 1) : tkI kd N (zI (zz kd i)) = i :=
  fnd_eq hi (by rw [decide_eq_true hs, decide_eq_true rfl]; rfl) (fun j hj hp => by
    have hp := and2.mp hp
    exact un_c (c := zI) (P := fun i => zS (zz kd i) = 1) (fun a b => (h.mo a b).1) (fun q hq hp => (h.s1 hq hp).2) hj hi (of_decide_eq_true hp.1) hs (of_decide_eq_true hp.2))
theorem tkR_c (h : TXT kd N) {i : Nat} (hi : i < N) (hs : zS (zz kd i) = 3) : tkR kd N (zR (zz kd i)) = i :=
  fnd_eq hi (by rw [decide_eq_true hs, decide_eq_true rfl]; rfl) (fun j hj hp => by
    have hp := and2.mp hp
    exact un_c (c := zR) (P := fun i => zS (zz kd i) = 3) (fun a b => (h.mo a b).2.1) (fun q hq hp => (h.s3 hq hp).2.1) hj hi (of_decide_eq_true hp.1) hs (of_decide_eq_true hp.2))
theorem tkL_c (h : TXT kd N) {i : Nat} (hi : i < N) (hs : zS (zz kd i) = 7) : tkL kd N (zL (zz kd i)) = i :=
  fnd_eq hi (by rw [decide_eq_true hs, decide_eq_true rfl]; rfl) (fun j hj hp => by
    have hp := and2.mp hp
    exact un_c (c := zL) (P := fun i => zS (zz kd i) = 7) (fun a b => (h.mo a b).2.2.1) (fun q hq hp => (h.s7 hq hp).2.1) hj hi (of_decide_eq_true hp.1) hs (of_decide_eq_true hp.2))
theorem sK (h : TXT kd N) {i : Nat} (hi : i < N) (hs : zC (zz kd i) = true ∧ kd i = 2) : zK (zz kd (i + 1)) = zK (zz kd i) + 1 := by
  obtain ⟨s, h1, h2, e, _⟩ := h.st hi
  rw [e, zA_K, if_pos hs]
theorem tkK_c (h : TXT kd N) {i : Nat} (hi : i < N) (hs : zC (zz kd i) = true) (hk : kd i = 2) : tkK kd N (zK (zz kd i)) = i :=
  fnd_eq hi (by rw [hs, decide_eq_true hk, decide_eq_true rfl]; rfl) (fun j hj hp => by
    have hp := and2.mp hp
    have hp1 := and2.mp hp.1
    exact un_c (c := zK) (P := fun i => zC (zz kd i) = true ∧ kd i = 2) (fun a b => (h.mo a b).2.2.2.2) (fun q hq hp => sK h hq hp) hj hi ⟨hp1.1, of_decide_eq_true hp1.2⟩ ⟨hs, hk⟩ (of_decide_eq_true hp.2))
theorem tkC_c (h : TXT kd N) {i : Nat} (hi : i < N) (hk : kd i = 13) : tkC kd N (ownZ (zz kd i)) = i + 1 := by
  unfold tkC
  rw [fnd_eq hi (by rw [decide_eq_true hk, decide_eq_true rfl]; rfl) (fun j hj hp => by
    have hp := and2.mp hp
    exact h.un13 hj hi (of_decide_eq_true hp.1) hk (of_decide_eq_true hp.2))]
theorem tkX_c (h : TXT kd N) {i k : Nat} (hi : i < N) (hs : zS (zz kd i) = 8) (hk : zV (zz kd i) = k + 1) : tkX kd N k = i := by
  refine fnd_eq hi (by rw [decide_eq_true hs, decide_eq_true hk]; rfl) (fun j hj hp => ?_)
  have hp := and2.mp hp
  have hs2 := of_decide_eq_true hp.1
  have hk2 := of_decide_eq_true hp.2
  have key : ∀ {i j : Nat}, i < N → j < N → zS (zz kd i) = 8 → zS (zz kd j) = 8 → zV (zz kd i) = zV (zz kd j) → ¬ i < j := fun {i j} hi hj hs hs2 e z => by
    obtain ⟨_, s9, v9, _⟩ := h.s8 hi hs
    have n := (z_nbs h.1 h.2.1 (show i + 1 ≤ j by omega) (show j ≤ N by omega)).2.2.2.2 (by unfold bW; omega)
    unfold bW at n
    omega
  rcases Nat.lt_trichotomy j i with z | z | z
  · exact absurd z (key hj hi hs2 hs (by omega))
  · exact z
  · exact absurd z (key hi hj hs hs2 (by omega))
theorem tkV_c (h : TXT kd N) {i k : Nat} (hi : i < N) (hs : zS (zz kd i) = 9) (hk : zV (zz kd i) = k + 1) : tkV kd N k = i + 1 := by
  unfold tkV
  rw [fnd_eq hi (by rw [decide_eq_true hs, decide_eq_true hk]; rfl) (fun j hj hp => ?_)]
  have hp := and2.mp hp
  have hs2 := of_decide_eq_true hp.1
  have hk2 := of_decide_eq_true hp.2
  have key : ∀ {i j : Nat}, i < N → j < N → zS (zz kd i) = 9 → zS (zz kd j) = 9 → zV (zz kd i) = zV (zz kd j) → ¬ i < j := fun {i j} hi hj hs hs2 e z => by
    obtain ⟨_, s9, v9, _⟩ := h.s9 hi hs
    have n := (z_nbs h.1 h.2.1 (show i + 1 ≤ j by omega) (show j ≤ N by omega)).2.2.2.1 (by unfold bV; omega)
    unfold bV at n
    omega
  rcases Nat.lt_trichotomy j i with z | z | z
  · exact absurd z (key hj hi hs2 hs (by omega))
  · exact z
  · exact absurd z (key hi hj hs hs2 (by omega))
theorem un5 (h : TXT kd N) {i j : Nat} (hi : i < N) (hj : j < N) (hs : zS (zz kd i) = 5) (hs2 : zS (zz kd j) = 5) (e : zR (zz kd i) = zR (zz kd j)) : i = j := by
  have key : ∀ {i j : Nat}, i < N → j < N → zS (zz kd i) = 5 → zS (zz kd j) = 5 → zR (zz kd i) = zR (zz kd j) → ¬ i < j := fun {i j} hi hj hs hs2 e z => by
    obtain ⟨s, h1, h2, e2, _⟩ := h.st hi
    have c := (zac h2 h1).2.2.1 hs
    have s6 : zS (zz kd (i + 1)) = 6 := by rw [e2, zA_S]; exact c.2
    have r6 : zR (zz kd (i + 1)) = zR (zz kd i) := by rw [e2, zA_R, if_neg (by omega)]
    have n := (z_nbs h.1 h.2.1 (show i + 1 ≤ j by omega) (show j ≤ N by omega)).2.1 (by unfold bS; omega)
    unfold bS at n
    omega
  rcases Nat.lt_trichotomy i j with z | z | z
  · exact absurd z (key hi hj hs hs2 e)
  · exact z
  · exact absurd z (key hj hi hs2 hs e.symm)
theorem slT_c {vl : Nat → Int64} (h : TXT kd N) {i k : Nat} (hi : i < N) (hs : zS (zz kd i) = 5) (hk : zR (zz kd i) = k + 1) : slT kd vl N k = (vl i).toInt.toNat := by
  unfold slT
  rw [fnd_o hi (show slP kd k i = true by unfold slP; rw [decide_eq_true hs, decide_eq_true hk]; rfl) (fun j hj hp => by
    unfold slP at hp
    have hp := and2.mp hp
    exact un5 h hj hi (of_decide_eq_true hp.1) hs (by have := of_decide_eq_true hp.2; omega))]
theorem slT_0 {vl : Nat → Int64} {k : Nat} (hno : ∀ i, i < N → zS (zz kd i) = 5 → zR (zz kd i) ≠ k + 1) : slT kd vl N k = 0 := by
  unfold slT
  rw [List.find?_eq_none.mpr (fun i hi hp => by
    unfold slP at hp
    have hp := and2.mp hp
    exact hno i (List.mem_range.mp hi) (of_decide_eq_true hp.1) (of_decide_eq_true hp.2))]
/-- what a token told: an input's name, a relay's, a lamp's -/
theorem told_c (h : TXT kd N) {t : Nat} (ht : t ∈ toL kd N) : t < N ∧ ((zS (zz kd t) = 1 ∧ (zT (zz kd t) = 4 ∨ zT (zz kd t) = 5) ∧ zNo (zz kd t) = zI (zz kd t) ∧ zI (zz kd t) < zI (zz kd N)) ∨ (zS (zz kd t) = 3 ∧ zT (zz kd t) = 6 ∧ zNo (zz kd t) = zR (zz kd t) ∧ zR (zz kd t) < zR (zz kd N)) ∨ (zS (zz kd t) = 7 ∧ (zT (zz kd t) = 8 ∨ zT (zz kd t) = 9) ∧ zNo (zz kd t) = zL (zz kd t) ∧ zL (zz kd t) < zL (zz kd N))) := by
  obtain ⟨h1, h2⟩ := List.mem_filter.mp ht
  have hlt := List.mem_range.mp h1
  refine ⟨hlt, ?_⟩
  obtain ⟨_, _, _, _, _, _, _, _, w9, w10, w11, w12, w13, _⟩ := h.w (show t ≤ N by omega)
  have h2 : zN (zS (zz kd t)) = true := h2
  unfold zN at h2
  rw [Bool.or_eq_true, Bool.or_eq_true, decide_eq_true_eq, decide_eq_true_eq, decide_eq_true_eq] at h2
  rcases h2 with z | z | z
  · have a := h.s1 hlt z
    have b := (h.mo (show t + 1 ≤ N by omega) (Nat.le_refl N)).1
    exact Or.inl ⟨z, w10 (Or.inl z), by unfold zNo; rw [if_pos z], by omega⟩
  · have a := h.s3 hlt z
    have b := (h.mo (show t + 1 ≤ N by omega) (Nat.le_refl N)).2.1
    exact Or.inr (Or.inl ⟨z, w11 (Or.inl z), by unfold zNo; rw [if_neg (by omega), if_pos z], by omega⟩)
  · have a := h.s7 hlt z
    have b := (h.mo (show t + 1 ≤ N by omega) (Nat.le_refl N)).2.2.1
    exact Or.inr (Or.inr ⟨z, w13 z, by unfold zNo; rw [if_neg (by omega), if_neg (by omega)], by omega⟩)
/-- what a name in a circuit is of: a relay or an input that bears it -/
theorem zVr_c {vl : Nat → Int64} (h : TXT kd N) {nm : Int64} {v : Nat} (hv : zVr kd vl (toL kd N) nm = some v) : (∃ t, t < N ∧ zS (zz kd t) = 3 ∧ vl t = nm ∧ v = zR (zz kd t) ∧ v < zR (zz kd N)) ∨ (∃ t, t < N ∧ zS (zz kd t) = 1 ∧ vl t = nm ∧ v = 6 + zI (zz kd t) ∧ v < 6 + zI (zz kd N)) := by
  unfold zVr at hv
  cases hf : (toL kd N).find? (zVp kd vl nm) with
  | none => rw [hf] at hv; cases hv
  | some t =>
    rw [hf] at hv
    have hv : some (zVf kd t) = some v := hv
    injection hv with hv
    have hp := List.find?_some hf
    obtain ⟨a, b⟩ := told_c h (List.mem_of_find?_eq_some hf)
    unfold zVp at hp
    rw [Bool.and_eq_true, Bool.or_eq_true, Bool.or_eq_true, decide_eq_true_eq, decide_eq_true_eq, decide_eq_true_eq, decide_eq_true_eq] at hp
    unfold zVf at hv
    rcases b with ⟨b1, b2, b3, b4⟩ | ⟨b1, b2, b3, b4⟩ | ⟨b1, b2, b3, b4⟩
    · rw [if_neg (by omega)] at hv
      exact Or.inr ⟨t, a, b1, hp.1, by omega, by omega⟩
    · rw [if_pos b2] at hv
      exact Or.inl ⟨t, a, b1, hp.1, by omega, by omega⟩
    · omega
theorem zG_c {vl : Nat → Int64} (h : TXT kd N) {i : Nat} (hi : i ≤ N) {nm : Int64} {g : Nat} (hv : zG kd vl (toL kd i) nm = some g) : ∃ t, t < i ∧ zS (zz kd t) = 7 ∧ zT (zz kd t) = 9 ∧ vl t = nm ∧ g = zL (zz kd t) ∧ g < zL (zz kd N) := by
  unfold zG at hv
  cases hf : (toL kd i).find? (zGp kd vl nm) with
  | none => rw [hf] at hv; cases hv
  | some t =>
    rw [hf] at hv
    have hv : some (zNo (zz kd t)) = some g := hv
    injection hv with hv
    have hp := List.find?_some hf
    have hm := List.mem_of_find?_eq_some hf
    obtain ⟨M, eM⟩ := toL_pre kd hi
    obtain ⟨a, b⟩ := told_c h (show t ∈ toL kd N by rw [eM]; exact List.mem_append_left _ hm)
    have hti := List.mem_range.mp (List.mem_filter.mp hm).1
    unfold zGp at hp
    rw [Bool.and_eq_true, decide_eq_true_eq, decide_eq_true_eq] at hp
    rcases b with ⟨b1, b2, b3, b4⟩ | ⟨b1, b2, b3, b4⟩ | ⟨b1, b2, b3, b4⟩
    · omega
    · omega
    · exact ⟨t, hti, b1, hp.2, hp.1, by omega, by omega⟩
end TX1
