/-! the model reads: what goes on in a circuit -/
theorem PRs.g {h : AH} {o t op cd sg wa wg wo w2 : Nat} {wp : Int32} {fs : List Value} (P : PRs h o fs ((t, op, cd, sg), (wa, wg, wo, wp))) : PRs (uph h o (.inr (12, fs.set 49 (.int (nI w2))))) o (fs.set 49 (.int (nI w2))) ((t, op, cd, sg), (wa, w2, wo, wp)) := by
  obtain ⟨a, b, c13, c11, c12, c41, c43, c45, c49, c15, c16⟩ := P
  exact ⟨a.pst (by omega), b.obj, by rw [get_set_ne (by decide)]; exact c13, by rw [get_set_ne (by decide)]; exact c11, by rw [get_set_ne (by decide)]; exact c12, by rw [get_set_ne (by decide)]; exact c41, by rw [get_set_ne (by decide)]; exact c43, by rw [get_set_ne (by decide)]; exact c45, get_set (by rw [a.2.1]; decide), by rw [get_set_ne (by decide)]; exact c15, by rw [get_set_ne (by decide)]; exact c16⟩
theorem PRs.o {h : AH} {o t op cd sg wa wg wo w2 : Nat} {wp : Int32} {fs : List Value} (P : PRs h o fs ((t, op, cd, sg), (wa, wg, wo, wp))) : PRs (uph h o (.inr (12, fs.set 12 (.int (nI w2))))) o (fs.set 12 (.int (nI w2))) ((t, w2, cd, sg), (wa, wg, wo, wp)) := by
  obtain ⟨a, b, c13, c11, c12, c41, c43, c45, c49, c15, c16⟩ := P
  exact ⟨a.pst (by omega), b.obj, by rw [get_set_ne (by decide)]; exact c13, by rw [get_set_ne (by decide)]; exact c11, get_set (by rw [a.2.1]; decide), by rw [get_set_ne (by decide)]; exact c41, by rw [get_set_ne (by decide)]; exact c43, by rw [get_set_ne (by decide)]; exact c45, by rw [get_set_ne (by decide)]; exact c49, by rw [get_set_ne (by decide)]; exact c15, by rw [get_set_ne (by decide)]; exact c16⟩
/-- within a circuit: token t, op levels open, pile W, codes c from cd on -/
def GSt (h : AH) (fs : List Value) (g : Nat → Int32) (o cd sg wa wo : Nat) (wp : Int32) (h1 : AH) (fs1 : List Value) (t op : Nat) (W c : List Nat) : Prop := PRs h1 o fs1 ((t, op, cd + c.length, sg), (wa, W.length, wo, wp)) ∧ (∃ g31, h1 (o + 1 + 31) = some (.inl (0, 420, .inl g31)) ∧ rowP g31 W) ∧ (∃ g27, h1 (o + 1 + 27) = some (.inl (0, 2100, .inl g27)) ∧ (∀ x, x < cd → g27 x = g x) ∧ rowQ g27 cd c) ∧ pfF fs fs1 ∧ ∀ x, x ≠ o → x ≠ o + 1 + 27 → x ≠ o + 1 + 31 → h1 x = h x
section GS
variable {h h1 : AH} {fs fs1 : List Value} {g : Nat → Int32} {o cd sg wa wo t op k : Nat} {wp : Int32} {W c : List Nat}
theorem GSt.pop (S : GSt h fs g o cd sg wa wo wp h1 fs1 t op (k :: W) c) : GSt h fs g o cd sg wa wo wp (uph h1 o (.inr (12, fs1.set 49 (.int (nI W.length))))) (fs1.set 49 (.int (nI W.length))) t op W c := by
  obtain ⟨a, ⟨g31, b1, b2⟩, ⟨g27, c1, c2, c3⟩, d, e⟩ := S
  exact ⟨a.g, ⟨g31, (uph_ne (by omega)).trans b1, b2.2⟩, ⟨g27, (uph_ne (by omega)).trans c1, c2, c3⟩, d.st (by omega), fun x x1 x2 x3 => (uph_ne x1).trans (e x x1 x2 x3)⟩
theorem GSt.em {h2 : AH} {fs2 : List Value} {g27 : Nat → Int32} (S : GSt h fs g o cd sg wa wo wp h1 fs1 t op W c) (e27 : h1 (o + 1 + 27) = some (.inl (0, 2100, .inl g27))) (hP : PRs h2 o fs2 ((t, op, cd + c.length + 1, sg), (wa, W.length, wo, wp))) (hF : pfF fs1 fs2) (h27 : h2 (o + 1 + 27) = some (.inl (0, 2100, .inl (upd g27 (cd + c.length) (nI k))))) (hf : ∀ x, x ≠ o → x ≠ o + 1 + 27 → h2 x = h1 x) : GSt h fs g o cd sg wa wo wp h2 fs2 t op W (c ++ [k]) := by
  obtain ⟨a, ⟨g31, b1, b2⟩, ⟨g27', c1, c2, c3⟩, d, e⟩ := S
  rw [e27] at c1
  injection c1 with c1
  injection c1 with c1
  injection c1 with _ c1
  injection c1 with _ c1
  injection c1 with c1
  subst c1
  refine ⟨by rw [List.length_append]; exact hP, ⟨g31, (hf _ (by omega) (by omega)).trans b1, b2⟩, ⟨_, h27, fun x hx => by rw [pk_un (by omega)]; exact c2 x hx, rowQ_app c3⟩, d.tr hF, fun x x1 x2 x3 => (hf x x1 x2).trans (e x x1 x2 x3)⟩
theorem GSt.go {h2 : AH} {fs2 : List Value} {t2 : Nat} (S : GSt h fs g o cd sg wa wo wp h1 fs1 t op W c) (hP : PRs h2 o fs2 ((t2, op, cd + c.length, sg), (wa, W.length, wo, wp))) (hF : pfF fs1 fs2) (hf : ∀ x, x ≠ o → h2 x = h1 x) : GSt h fs g o cd sg wa wo wp h2 fs2 t2 op W c := by
  obtain ⟨a, ⟨g31, b1, b2⟩, ⟨g27, c1, c2, c3⟩, d, e⟩ := S
  exact ⟨hP, ⟨g31, (hf _ (by omega)).trans b1, b2⟩, ⟨g27, (hf _ (by omega)).trans c1, c2, c3⟩, d.tr hF, fun x x1 x2 x3 => (hf x x1).trans (e x x1 x2 x3)⟩
theorem GSt.opn {o2 : Nat} (S : GSt h fs g o cd sg wa wo wp h1 fs1 t op W c) : GSt h fs g o cd sg wa wo wp (uph h1 o (.inr (12, fs1.set 12 (.int (nI o2))))) (fs1.set 12 (.int (nI o2))) t o2 W c := by
  obtain ⟨a, ⟨g31, b1, b2⟩, ⟨g27, c1, c2, c3⟩, d, e⟩ := S
  exact ⟨a.o, ⟨g31, (uph_ne (by omega)).trans b1, b2⟩, ⟨g27, (uph_ne (by omega)).trans c1, c2, c3⟩, d.st (by omega), fun x x1 x2 x3 => (uph_ne x1).trans (e x x1 x2 x3)⟩
theorem GSt.push (S : GSt h fs g o cd sg wa wo wp h1 fs1 t op W c) {g31 : Nat → Int32} (e31 : h1 (o + 1 + 31) = some (.inl (0, 420, .inl g31))) (hr : rowP g31 W) : GSt h fs g o cd sg wa wo wp (uph (uph h1 (o + 1 + 31) (.inl (0, 420, .inl (upd g31 W.length (nI k))))) o (.inr (12, fs1.set 49 (.int (nI (W.length + 1)))))) (fs1.set 49 (.int (nI (W.length + 1)))) t op (k :: W) c := by
  obtain ⟨a, _, ⟨g27, c1, c2, c3⟩, d, e⟩ := S
  have a2 := a.row (j := 31) (e := .inl (0, 420, .inl (upd g31 W.length (nI k)))) (rowS_i (by decide) rfl ⟨_, rfl⟩)
  exact ⟨a2.g, ⟨_, (uph_ne (by omega)).trans uph_eq, rowP_push hr⟩, ⟨g27, (uph_ne (by omega)).trans ((uph_ne (by omega)).trans c1), c2, c3⟩, d.st (by omega), fun x x1 x2 x3 => (uph_ne x1).trans ((uph_ne x3).trans (e x x1 x2 x3))⟩
end GS
