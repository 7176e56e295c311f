/-! codes worked out on a pile -/
/-- codes one after the other: a leaf goes onto the pile, 50 and 51 take two off -/
def pfS (isL vl : Nat → Bool) : List Nat → List Bool → Option (List Bool)
  | [], st => some st
  | k :: r, st => if isL k = true then pfS isL vl r (vl k :: st) else (match st with
    | b :: a :: t => pfS isL vl r ((if k = 50 then a && b else a || b) :: t)
    | _ => none)
/-- the pile's row holds the pile -/
def RS (g : Nat → Int32) : List Bool → Prop
  | [] => True
  | b :: t => g t.length = nI b.toNat ∧ RS g t
theorem RS_upd {g : Nat → Int32} {x : Int32} {j : Nat} : ∀ {st : List Bool}, RS g st → st.length ≤ j → RS (upd g j x) st
  | [], _, _ => trivial
  | b :: t, h, hj => ⟨(pk_un (by simp only [List.length_cons] at hj; omega)).trans h.1, RS_upd h.2 (by simp only [List.length_cons] at hj; omega)⟩
theorem RS_push {g : Nat → Int32} {st : List Bool} {b : Bool} (h : RS g st) : RS (upd g st.length (nI b.toNat)) (b :: st) := ⟨pk_us, RS_upd h (Nat.le_refl _)⟩
set_option maxHeartbeats 4000000 in
theorem c_isShut {l : Launch} {G : GG} {h : AH} {nx : Nat} {Post : Option Value → AH → Nat → Prop} {o q37 q38 q42 q57 c from_ len : Nat} {codes : List Nat} {v : Bool} {gf gt gk gP : Nat → Int32} {fs : List Value} {q56 : Nat} {cl : Nat → Bool} {gC : Nat → Int32} (hX : XC G ∧ TX l G) (ho : h o = some (.inr (12, fs))) (f37 : fs[37]? = some (.ref q37)) (f38 : fs[38]? = some (.ref q38)) (f42 : fs[42]? = some (.ref q42)) (f57 : fs[57]? = some (.ref q57)) (h37 : h q37 = some (.inl (0, 85, .inl gf))) (h38 : h q38 = some (.inl (0, 85, .inl gt))) (h42 : h q42 = some (.inl (0, 2100, .inl gk))) (h57 : h q57 = some (.inl (3, 420, .inl gP))) (hc : c < 85) (hf : gf c = nI from_) (ht : gt c = nI (from_ + codes.length)) (hk : ∀ i, i < codes.length → gk (from_ + i) = nI (codes.getD i 0)) (hb : ∀ k ∈ codes, k < 1000) (hlen : codes.length ≤ 420) (hto : from_ + codes.length ≤ 2100) (hv : pfS (fun k => decide (k < 40)) cl codes [] = some [v]) (f56 : fs[56]? = some (.ref q56)) (h56 : h q56 = some (.inl (3, 40, .inl gC))) (n56 : q56 ≠ q57) (hcl : ∀ k, k < 40 → k ∈ codes → gC k = nI (cl k).toNat) (hP : ∀ g : Nat → Int32, Post (some (.int (nI v.toNat))) (uph h q57 (.inl (3, 420, .inl g))) nx) : Runs l G i_X12_isShut 0 0 [.ref o, .int (nI c)] h nx Post := by
  have n42 : q42 ≠ q57 := fun e => by rw [e, h57] at h42; cases h42
  have n37 : q37 ≠ q57 := fun e => by rw [e, h57] at h37; cases h37
  have n38 : q38 ≠ q57 := fun e => by rw [e, h57] at h38; cases h38
  have n6 : o ≠ q57 := fun e => by rw [e, h57] at ho; cases ho
  have loop : ∀ (r : List Nat) (i : Nat) (st : List Bool) (g : Nat → Int32), codes.drop i = r → i + r.length = codes.length → st.length ≤ i → RS g st → pfS (fun k => decide (k < 40)) cl r st = some [v] → Go l G 12 s_X12_isShut 0 0 Post 9 [(3, .int (nI (from_ + i))), (2, .int (nI st.length)), (0, .ref o), (1, .int (nI c))] [] (uph h q57 (.inl (3, 420, .inl g))) nx 0 0 := by
    intro r
    induction r with
    | nil =>
      intro i st g hd hi hst hr hp
      simp only [List.length_nil, Nat.add_zero] at hi
      have e1 : st = [v] := Option.some.inj hp
      subst e1
      refine Go.of hX.2 ck_X12_isShut [9] 40 ?_
      refine Exists.intro _ (And.intro (by rw [uph_ne n6]; exact ho) (Exists.intro _ (And.intro f38 ?_)))
      refine Exists.intro _ (Exists.intro _ (And.intro (by rw [uph_ne n38]; exact h38) (And.intro (vp_in_nI hc (by decide)) ?_)))
      rw [nI_clamp (by omega), ht]
      refine And.intro (fun _ => ?_) (fun cz => absurd (nI_le (by omega) (by omega)) cz)
      refine Exists.intro _ (And.intro (by rw [uph_ne n6]; exact ho) (Exists.intro _ (And.intro f57 ?_)))
      refine Exists.intro 3 (Exists.intro _ (Exists.intro _ (And.intro uph_eq (And.intro (Or.inr rfl) (And.intro (vp_in_nI (n := 0) (by decide) (by decide)) ?_)))))
      have e2 : g (Int32.toNatClampNeg 0) = nI v.toNat := hr.1
      rw [e2]
      exact And.intro (by cases v <;> rfl) (hP g)
    | cons k r ih =>
      intro i st g hd hi hst hr hp
      simp only [List.length_cons] at hi
      have hic : i < codes.length := by omega
      have hki : codes.getD i 0 = k := by rw [List.getD_eq_getElem?_getD, ← Nat.add_zero i, ← List.getElem?_drop, hd]; rfl
      have hkm : k < 1000 := hb k (List.mem_of_mem_drop (by rw [hd]; exact List.mem_cons_self))
      have hd2 : codes.drop (i + 1) = r := by rw [← List.drop_drop, hd]; rfl
      have ek : gk (from_ + i) = nI k := by rw [hk i hic, hki]
      refine Go.of hX.2 ck_X12_isShut [9, 9, 123] 100 ?_
      refine Exists.intro _ (And.intro (by rw [uph_ne n6]; exact ho) (Exists.intro _ (And.intro f38 ?_)))
      refine Exists.intro _ (Exists.intro _ (And.intro (by rw [uph_ne n38]; exact h38) (And.intro (vp_in_nI hc (by decide)) ?_)))
      rw [nI_clamp (by omega), ht]
      refine And.intro (fun cz => absurd cz (nI_ge (by omega) (by omega))) (fun _ => ?_)
      refine Exists.intro _ (And.intro (by rw [uph_ne n6]; exact ho) (Exists.intro _ (And.intro f42 ?_)))
      refine Exists.intro _ (Exists.intro _ (And.intro (by rw [uph_ne n42]; exact h42) (And.intro (vp_in_nI (by omega) (by decide)) ?_)))
      rw [nI_clamp (by omega), ek]
      by_cases hL : (fun k => decide (k < 40)) k = true
      · rw [show pfS (fun k => decide (k < 40)) cl (k :: r) st = pfS (fun k => decide (k < 40)) cl r (cl k :: st) from if_pos hL] at hp
        refine And.intro (fun cz => absurd cz (nI_ge (b := 40) (of_decide_eq_true hL) (by decide))) (fun _ => ?_)
        refine Exists.intro _ (And.intro (by rw [uph_ne n6]; exact ho) (Exists.intro _ (And.intro f57 ?_)))
        refine Exists.intro _ (And.intro (by rw [uph_ne n6]; exact ho) (Exists.intro _ (And.intro f56 ?_)))
        refine Exists.intro 3 (Exists.intro _ (Exists.intro _ (And.intro (by rw [uph_ne n56]; exact h56) (And.intro (Or.inr rfl) (And.intro (vp_in_nI (of_decide_eq_true hL) (by decide)) ?_)))))
        rw [nI_clamp (by omega), hcl k (of_decide_eq_true hL) (List.mem_of_mem_drop (by rw [hd]; exact List.mem_cons_self))]
        refine Exists.intro 3 (Exists.intro _ (Exists.intro _ (And.intro uph_eq (And.intro (Or.inr rfl) (And.intro (vp_in_nI (by omega) (by decide)) ?_)))))
        rw [uph_uph, nI_clamp (by omega), nar_b]
        refine go_loc (lv' := [(3, .int (nI (from_ + i) + 1)), (2, .int (nI st.length + 1)), (0, .ref o), (1, .int (nI c))]) ⟨rfl, rfl, rfl, rfl, trivial⟩ ?_
        rw [← nI_succ, ← nI_succ]
        exact ih (i + 1) (cl k :: st) _ hd2 (by omega) (by simp only [List.length_cons]; omega) (RS_push hr) hp
      · match st, hst, hr, hp with
        | [], _, _, hp => rw [show pfS (fun k => decide (k < 40)) cl (k :: r) [] = none from if_neg hL] at hp; cases hp
        | [a], _, _, hp => rw [show pfS (fun k => decide (k < 40)) cl (k :: r) [a] = none from if_neg hL] at hp; cases hp
        | y :: x :: t, hst, hr, hp =>
          rw [show pfS (fun k => decide (k < 40)) cl (k :: r) (y :: x :: t) = pfS (fun k => decide (k < 40)) cl r ((if k = 50 then x && y else x || y) :: t) from if_neg hL] at hp
          simp only [List.length_cons] at hst
          have ea : nI (y :: x :: t).length + -1 = nI (t.length + 1) := by rw [← Int32.sub_eq_add_neg]; exact nI_pred _
          have eb : nI (t.length + 1) - 1 = nI t.length := nI_pred _
          have hy : g (t.length + 1) = nI y.toNat := hr.1
          have hx : g t.length = nI x.toNat := hr.2.1
          have ho2 : (uph h q57 (.inl (3, 420, .inl g))) o = some (.inr (12, fs)) := by rw [uph_ne n6]; exact ho
          have fin : ∀ (w : Bool) (lvx : LV), allk lvx [(3, .int (nI (from_ + i))), (2, .int (nI (y :: x :: t).length + -1)), (0, .ref o), (1, .int (nI c))] → w = (if k = 50 then x && y else x || y) → Go l G 12 s_X12_isShut 0 0 Post 123 lvx [.int (nI w.toNat), .int (nI (y :: x :: t).length + -1 - 1), .ref q57] (uph h q57 (.inl (3, 420, .inl g))) nx 0 0 := by
            intro w lvx hlv hw
            refine go_loc hlv ?_
            refine Go.of hX.2 ck_X12_isShut [9] 20 ?_
            refine Exists.intro 3 (Exists.intro _ (Exists.intro _ (And.intro uph_eq (And.intro (Or.inr rfl) (And.intro (by rw [ea, eb]; exact vp_in_nI (by omega) (by decide)) ?_)))))
            rw [uph_uph, ea, eb, nI_clamp (by omega), nar_b, hw]
            refine go_loc (lv' := [(3, .int (nI (from_ + i) + 1)), (2, .int (nI (t.length + 1))), (0, .ref o), (1, .int (nI c))]) ⟨rfl, rfl, rfl, rfl, trivial⟩ ?_
            rw [← nI_succ]
            exact ih (i + 1) ((if k = 50 then x && y else x || y) :: t) _ hd2 (by omega) (by simp only [List.length_cons]; omega) (RS_push hr.2.2) hp
          refine And.intro (fun _ => ?_) (fun cz => absurd (nI_le (a := 40) (by have := of_decide_eq_false (show decide (k < 40) = false from by cases hh : decide (k < 40) with | true => exact absurd hh hL | false => rfl); omega) (by omega)) cz)
          refine Exists.intro _ (And.intro ho2 (Exists.intro _ (And.intro f57 ?_)))
          by_cases h50 : k = 50
          · subst h50
            rw [if_pos rfl] at fin
            refine And.intro (fun cz => absurd rfl cz) (fun _ => ?_)
            refine Exists.intro _ (And.intro ho2 (Exists.intro _ (And.intro f57 ?_)))
            refine Exists.intro 3 (Exists.intro _ (Exists.intro _ (And.intro uph_eq (And.intro (Or.inr rfl) (And.intro (by rw [ea, eb]; exact vp_in_nI (by omega) (by decide)) ?_)))))
            rw [ea, eb, nI_clamp (by omega), hx]
            rw [← eb, ← ea]
            cases x
            · refine And.intro (fun _ => ?_) (fun cz => by first | exact absurd cz (by decide) | exact absurd (by decide) cz)
              exact fin false _ ⟨rfl, rfl, rfl, rfl, trivial⟩ rfl
            · refine And.intro (fun cz => by first | exact absurd cz (by decide) | exact absurd (by decide) cz) (fun _ => ?_)
              refine Exists.intro _ (And.intro ho2 (Exists.intro _ (And.intro f57 ?_)))
              refine Exists.intro 3 (Exists.intro _ (Exists.intro _ (And.intro uph_eq (And.intro (Or.inr rfl) (And.intro (by rw [ea]; exact vp_in_nI (by omega) (by decide)) ?_)))))
              rw [ea, nI_clamp (by omega), hy, ← ea]
              cases y
              · refine And.intro (fun _ => ?_) (fun cz => by first | exact absurd cz (by decide) | exact absurd (by decide) cz)
                exact fin false _ ⟨rfl, rfl, rfl, rfl, trivial⟩ rfl
              · refine And.intro (fun cz => by first | exact absurd cz (by decide) | exact absurd (by decide) cz) (fun _ => ?_)
                exact fin true _ ⟨rfl, rfl, rfl, rfl, trivial⟩ rfl
          · rw [if_neg h50] at fin
            refine And.intro (fun _ => ?_) (fun cz => absurd ((nI_eq (by omega) (by decide)).mp (show nI k = nI 50 from cz)) h50)
            refine Exists.intro _ (And.intro ho2 (Exists.intro _ (And.intro f57 ?_)))
            refine Exists.intro 3 (Exists.intro _ (Exists.intro _ (And.intro uph_eq (And.intro (Or.inr rfl) (And.intro (by rw [ea, eb]; exact vp_in_nI (by omega) (by decide)) ?_)))))
            rw [ea, eb, nI_clamp (by omega), hx]
            rw [← eb, ← ea]
            cases x
            · refine And.intro (fun cz => by first | exact absurd cz (by decide) | exact absurd (by decide) cz) (fun _ => ?_)
              refine Exists.intro _ (And.intro ho2 (Exists.intro _ (And.intro f57 ?_)))
              refine Exists.intro 3 (Exists.intro _ (Exists.intro _ (And.intro uph_eq (And.intro (Or.inr rfl) (And.intro (by rw [ea]; exact vp_in_nI (by omega) (by decide)) ?_)))))
              rw [ea, nI_clamp (by omega), hy, ← ea]
              cases y
              · refine And.intro (fun _ => ?_) (fun cz => by first | exact absurd cz (by decide) | exact absurd (by decide) cz)
                exact fin false _ ⟨rfl, rfl, rfl, rfl, trivial⟩ rfl
              · refine And.intro (fun cz => by first | exact absurd cz (by decide) | exact absurd (by decide) cz) (fun _ => ?_)
                exact fin true _ ⟨rfl, rfl, rfl, rfl, trivial⟩ rfl
            · refine And.intro (fun _ => ?_) (fun cz => by first | exact absurd cz (by decide) | exact absurd (by decide) cz)
              exact fin true _ ⟨rfl, rfl, rfl, rfl, trivial⟩ rfl
  refine en_X12_isShut hX [9] 40 rfl ?_
  refine Exists.intro _ (And.intro ho (Exists.intro _ (And.intro f37 ?_)))
  refine Exists.intro _ (Exists.intro _ (And.intro h37 (And.intro (vp_in_nI hc (by decide)) ?_)))
  rw [nI_clamp (by omega), hf]
  have hl := loop codes 0 [] gP rfl (Nat.zero_add _) (Nat.le_refl _) trivial hv
  rw [uph_self h57] at hl
  exact go_loc (lv' := [(3, .int (nI from_)), (2, .int (nI 0)), (0, .ref o), (1, .int (nI c))]) ⟨rfl, rfl, rfl, rfl, trivial⟩ hl
set_option maxHeartbeats 4000000 in
theorem c_holdsM {l : Launch} {G : GG} {h : AH} {nx : Nat} {Post : Option Value → AH → Nat → Prop} {o q37 q38 q42 q57 c from_ len : Nat} {codes : List Nat} {v : Bool} {gf gt gk gP : Nat → Int32} {fs : List Value} {q22 on up d : Nat} {tr : Nat → Bool} {trk : Nat → Int32} (hX : XC G ∧ TX l G) (ho : h o = some (.inr (12, fs))) (f37 : fs[37]? = some (.ref q37)) (f38 : fs[38]? = some (.ref q38)) (f42 : fs[42]? = some (.ref q42)) (f57 : fs[57]? = some (.ref q57)) (h37 : h q37 = some (.inl (0, 85, .inl gf))) (h38 : h q38 = some (.inl (0, 85, .inl gt))) (h42 : h q42 = some (.inl (0, 2100, .inl gk))) (h57 : h q57 = some (.inl (3, 420, .inl gP))) (hc : c < 85) (hf : gf c = nI from_) (ht : gt c = nI (from_ + codes.length)) (hk : ∀ i, i < codes.length → gk (from_ + i) = nI (codes.getD i 0)) (hb : ∀ k ∈ codes, k < 1000) (hlen : codes.length ≤ 420) (hto : from_ + codes.length ≤ 2100) (hv : pfS (fun k => decide (60 ≤ k)) (fun k => thv tr on up ((k - 60) / 2) ^^ decide (k % 2 = 1)) codes [] = some [v]) (f22 : fs[22]? = some (.ref q22)) (h22 : h q22 = some (.inl (3, 25, .inl trk))) (n22 : q22 ≠ q57) (hon : on < 2 ^ 31) (hup : up < 2 ^ 31) (hd5 : d < 5) (et : ∀ i, i < 5 → trk (5 * d + i) = nI (tr i).toNat) (hleaf : ∀ k, 60 ≤ k → k ∈ codes → ((k - 60) / 2 < 5 ∨ (10 ≤ (k - 60) / 2 ∧ (k - 60) / 2 < 16))) (hP : ∀ g : Nat → Int32, Post (some (.int (nI v.toNat))) (uph h q57 (.inl (3, 420, .inl g))) nx) : Runs l G i_X12_holds 0 0 [.ref o, .int (nI c), .int (nI on), .int (nI up), .int (nI d)] h nx Post := by
  have n42 : q42 ≠ q57 := fun e => by rw [e, h57] at h42; cases h42
  have n37 : q37 ≠ q57 := fun e => by rw [e, h57] at h37; cases h37
  have n38 : q38 ≠ q57 := fun e => by rw [e, h57] at h38; cases h38
  have n6 : o ≠ q57 := fun e => by rw [e, h57] at ho; cases ho
  have loop : ∀ (r : List Nat) (i : Nat) (st : List Bool) (g : Nat → Int32), codes.drop i = r → i + r.length = codes.length → st.length ≤ i → RS g st → pfS (fun k => decide (60 ≤ k)) (fun k => thv tr on up ((k - 60) / 2) ^^ decide (k % 2 = 1)) r st = some [v] → Go l G 12 s_X12_holds 0 0 Post 11 [(6, .int (nI (from_ + i))), (5, .int (nI st.length)), (0, .ref o), (1, .int (nI c)), (2, .int (nI on)), (3, .int (nI up)), (4, .int (nI d))] [] (uph h q57 (.inl (3, 420, .inl g))) nx 0 0 := by
    intro r
    induction r with
    | nil =>
      intro i st g hd hi hst hr hp
      simp only [List.length_nil, Nat.add_zero] at hi
      have e1 : st = [v] := Option.some.inj hp
      subst e1
      refine Go.of hX.2 ck_X12_holds [11] 40 ?_
      refine Exists.intro _ (And.intro (by rw [uph_ne n6]; exact ho) (Exists.intro _ (And.intro f38 ?_)))
      refine Exists.intro _ (Exists.intro _ (And.intro (by rw [uph_ne n38]; exact h38) (And.intro (vp_in_nI hc (by decide)) ?_)))
      rw [nI_clamp (by omega), ht]
      refine And.intro (fun _ => ?_) (fun cz => absurd (nI_le (by omega) (by omega)) cz)
      refine Exists.intro _ (And.intro (by rw [uph_ne n6]; exact ho) (Exists.intro _ (And.intro f57 ?_)))
      refine Exists.intro 3 (Exists.intro _ (Exists.intro _ (And.intro uph_eq (And.intro (Or.inr rfl) (And.intro (vp_in_nI (n := 0) (by decide) (by decide)) ?_)))))
      have e2 : g (Int32.toNatClampNeg 0) = nI v.toNat := hr.1
      rw [e2]
      exact And.intro (by cases v <;> rfl) (hP g)
    | cons k r ih =>
      intro i st g hd hi hst hr hp
      simp only [List.length_cons] at hi
      have hic : i < codes.length := by omega
      have hki : codes.getD i 0 = k := by rw [List.getD_eq_getElem?_getD, ← Nat.add_zero i, ← List.getElem?_drop, hd]; rfl
      have hkm : k < 1000 := hb k (List.mem_of_mem_drop (by rw [hd]; exact List.mem_cons_self))
      have hd2 : codes.drop (i + 1) = r := by rw [← List.drop_drop, hd]; rfl
      have ek : gk (from_ + i) = nI k := by rw [hk i hic, hki]
      refine Go.of hX.2 ck_X12_holds [11, 72, 154] 100 ?_
      refine Exists.intro _ (And.intro (by rw [uph_ne n6]; exact ho) (Exists.intro _ (And.intro f38 ?_)))
      refine Exists.intro _ (Exists.intro _ (And.intro (by rw [uph_ne n38]; exact h38) (And.intro (vp_in_nI hc (by decide)) ?_)))
      rw [nI_clamp (by omega), ht]
      refine And.intro (fun cz => absurd cz (nI_ge (by omega) (by omega))) (fun _ => ?_)
      refine Exists.intro _ (And.intro (by rw [uph_ne n6]; exact ho) (Exists.intro _ (And.intro f42 ?_)))
      refine Exists.intro _ (Exists.intro _ (And.intro (by rw [uph_ne n42]; exact h42) (And.intro (vp_in_nI (by omega) (by decide)) ?_)))
      rw [nI_clamp (by omega), ek]
      by_cases hL : (fun k => decide (60 ≤ k)) k = true
      · rw [show pfS (fun k => decide (60 ≤ k)) (fun k => thv tr on up ((k - 60) / 2) ^^ decide (k % 2 = 1)) (k :: r) st = pfS (fun k => decide (60 ≤ k)) (fun k => thv tr on up ((k - 60) / 2) ^^ decide (k % 2 = 1)) r ((fun k => thv tr on up ((k - 60) / 2) ^^ decide (k % 2 = 1)) k :: st) from if_pos hL] at hp
        have h60 : 60 ≤ k := of_decide_eq_true hL
        refine And.intro (fun cz => absurd cz (nI_nlt (b := 60) h60 (by omega))) (fun _ => ?_)
        refine Exists.intro _ (And.intro (by rw [uph_ne n6]; exact ho) (Exists.intro _ (And.intro f57 ?_)))
        refine And.intro (by decide) ?_
        refine And.intro (by decide) ?_
        have ed : (nI k - 60) / 2 = nI ((k - 60) / 2) := by rw [show (60 : Int32) = nI 60 from rfl, nI_sub h60]; exact pk_div (by omega) (by decide) (by decide)
        have er : nI k - nI k / 2 * 2 = nI (k % 2) := pk_rem (d := 2) (by omega) (by decide) (by decide)
        have hof := hleaf k h60 (List.mem_of_mem_drop (by rw [hd]; exact List.mem_cons_self))
        have cont : ∀ n : Bool, n = decide (k % 2 = 1) → Runs l G i_X12_isThing 0 0 [.ref o, .int ((nI k - 60) / 2), .int (nI n.toNat), .int (nI on), .int (nI up), .int (nI d)] (uph h q57 (.inl (3, 420, .inl g))) nx (fun u h1 nx1 => u = some (.int (nI ((fun k => thv tr on up ((k - 60) / 2) ^^ decide (k % 2 = 1)) k).toNat)) ∧ h1 = (uph h q57 (.inl (3, 420, .inl g))) ∧ nx1 = nx) := fun n hn => by rw [ed]; exact c_isThing hX (by rw [uph_ne n6]; exact ho) f22 (by rw [uph_ne n22]; exact h22) hof hon hup hd5 (fun h5 => et _ h5) ⟨by rw [hn], rfl, rfl⟩
        have post : Go l G 12 s_X12_holds 0 0 Post 72 [(7, .int (nI k)), (6, .int (nI (from_ + i))), (5, .int (nI st.length)), (0, .ref o), (1, .int (nI c)), (2, .int (nI on)), (3, .int (nI up)), (4, .int (nI d))] [.int (nI ((fun k => thv tr on up ((k - 60) / 2) ^^ decide (k % 2 = 1)) k).toNat), .int (nI st.length), .ref q57] (uph h q57 (.inl (3, 420, .inl g))) nx 0 0 := by
          refine Go.of hX.2 ck_X12_holds [11] 20 ?_
          refine Exists.intro 3 (Exists.intro _ (Exists.intro _ (And.intro uph_eq (And.intro (Or.inr rfl) (And.intro (vp_in_nI (by omega) (by decide)) ?_)))))
          rw [uph_uph, nI_clamp (by omega), nar_b]
          refine go_loc (lv' := [(6, .int (nI (from_ + i) + 1)), (5, .int (nI st.length + 1)), (0, .ref o), (1, .int (nI c)), (2, .int (nI on)), (3, .int (nI up)), (4, .int (nI d))]) ⟨rfl, rfl, rfl, rfl, rfl, rfl, rfl, trivial⟩ ?_
          rw [← nI_succ, ← nI_succ]
          exact ih (i + 1) ((fun k => thv tr on up ((k - 60) / 2) ^^ decide (k % 2 = 1)) k :: st) _ hd2 (by omega) (by simp only [List.length_cons]; omega) (RS_push hr) hp
        by_cases hr1 : k % 2 = 1
        · refine And.intro (fun cz => absurd (by rw [er, hr1]; rfl) cz) (fun _ => ?_)
          refine Exists.intro _ (And.intro (by rw [uph_ne n6]; exact ho) (Exists.intro 0 (Exists.intro 0 (And.intro (Nat.le_refl _) (And.intro (Nat.le_refl _) (Runs.mono (fun u h1 nx1 hu => ?_) (cont true (decide_eq_true hr1).symm)))))))
          obtain ⟨rfl, rfl, rfl⟩ := hu
          exact go_loc (lv' := [(7, .int (nI k)), (6, .int (nI (from_ + i))), (5, .int (nI st.length)), (0, .ref o), (1, .int (nI c)), (2, .int (nI on)), (3, .int (nI up)), (4, .int (nI d))]) ⟨rfl, rfl, rfl, rfl, rfl, rfl, rfl, rfl, trivial⟩ post
        · refine And.intro (fun _ => ?_) (fun cz => absurd (show k % 2 = 1 from (nI_eq (by omega) (by decide)).mp (er.symm.trans cz)) hr1)
          refine Exists.intro _ (And.intro (by rw [uph_ne n6]; exact ho) (Exists.intro 0 (Exists.intro 0 (And.intro (Nat.le_refl _) (And.intro (Nat.le_refl _) (Runs.mono (fun u h1 nx1 hu => ?_) (cont false (decide_eq_false hr1).symm)))))))
          obtain ⟨rfl, rfl, rfl⟩ := hu
          exact go_loc (lv' := [(7, .int (nI k)), (6, .int (nI (from_ + i))), (5, .int (nI st.length)), (0, .ref o), (1, .int (nI c)), (2, .int (nI on)), (3, .int (nI up)), (4, .int (nI d))]) ⟨rfl, rfl, rfl, rfl, rfl, rfl, rfl, rfl, trivial⟩ post
      · match st, hst, hr, hp with
        | [], _, _, hp => rw [show pfS (fun k => decide (60 ≤ k)) (fun k => thv tr on up ((k - 60) / 2) ^^ decide (k % 2 = 1)) (k :: r) [] = none from if_neg hL] at hp; cases hp
        | [a], _, _, hp => rw [show pfS (fun k => decide (60 ≤ k)) (fun k => thv tr on up ((k - 60) / 2) ^^ decide (k % 2 = 1)) (k :: r) [a] = none from if_neg hL] at hp; cases hp
        | y :: x :: t, hst, hr, hp =>
          rw [show pfS (fun k => decide (60 ≤ k)) (fun k => thv tr on up ((k - 60) / 2) ^^ decide (k % 2 = 1)) (k :: r) (y :: x :: t) = pfS (fun k => decide (60 ≤ k)) (fun k => thv tr on up ((k - 60) / 2) ^^ decide (k % 2 = 1)) r ((if k = 50 then x && y else x || y) :: t) from if_neg hL] at hp
          simp only [List.length_cons] at hst
          have ea : nI (y :: x :: t).length + -1 = nI (t.length + 1) := by rw [← Int32.sub_eq_add_neg]; exact nI_pred _
          have eb : nI (t.length + 1) - 1 = nI t.length := nI_pred _
          have hy : g (t.length + 1) = nI y.toNat := hr.1
          have hx : g t.length = nI x.toNat := hr.2.1
          have ho2 : (uph h q57 (.inl (3, 420, .inl g))) o = some (.inr (12, fs)) := by rw [uph_ne n6]; exact ho
          have fin : ∀ (w : Bool) (lvx : LV), allk lvx [(6, .int (nI (from_ + i))), (5, .int (nI (y :: x :: t).length + -1)), (0, .ref o), (1, .int (nI c)), (2, .int (nI on)), (3, .int (nI up)), (4, .int (nI d))] → w = (if k = 50 then x && y else x || y) → Go l G 12 s_X12_holds 0 0 Post 154 lvx [.int (nI w.toNat), .int (nI (y :: x :: t).length + -1 - 1), .ref q57] (uph h q57 (.inl (3, 420, .inl g))) nx 0 0 := by
            intro w lvx hlv hw
            refine go_loc hlv ?_
            refine Go.of hX.2 ck_X12_holds [11] 20 ?_
            refine Exists.intro 3 (Exists.intro _ (Exists.intro _ (And.intro uph_eq (And.intro (Or.inr rfl) (And.intro (by rw [ea, eb]; exact vp_in_nI (by omega) (by decide)) ?_)))))
            rw [uph_uph, ea, eb, nI_clamp (by omega), nar_b, hw]
            refine go_loc (lv' := [(6, .int (nI (from_ + i) + 1)), (5, .int (nI (t.length + 1))), (0, .ref o), (1, .int (nI c)), (2, .int (nI on)), (3, .int (nI up)), (4, .int (nI d))]) ⟨rfl, rfl, rfl, rfl, rfl, rfl, rfl, trivial⟩ ?_
            rw [← nI_succ]
            exact ih (i + 1) ((if k = 50 then x && y else x || y) :: t) _ hd2 (by omega) (by simp only [List.length_cons]; omega) (RS_push hr.2.2) hp
          refine And.intro (fun _ => ?_) (fun cz => absurd (nI_lt (b := 60) (by have := of_decide_eq_false (show decide (60 ≤ k) = false from by cases hh : decide (60 ≤ k) with | true => exact absurd hh hL | false => rfl); omega) (by decide)) cz)
          refine Exists.intro _ (And.intro ho2 (Exists.intro _ (And.intro f57 ?_)))
          by_cases h50 : k = 50
          · subst h50
            rw [if_pos rfl] at fin
            refine And.intro (fun cz => absurd rfl cz) (fun _ => ?_)
            refine Exists.intro _ (And.intro ho2 (Exists.intro _ (And.intro f57 ?_)))
            refine Exists.intro 3 (Exists.intro _ (Exists.intro _ (And.intro uph_eq (And.intro (Or.inr rfl) (And.intro (by rw [ea, eb]; exact vp_in_nI (by omega) (by decide)) ?_)))))
            rw [ea, eb, nI_clamp (by omega), hx]
            rw [← eb, ← ea]
            cases x
            · refine And.intro (fun _ => ?_) (fun cz => by first | exact absurd cz (by decide) | exact absurd (by decide) cz)
              exact fin false _ ⟨rfl, rfl, rfl, rfl, rfl, rfl, rfl, trivial⟩ rfl
            · refine And.intro (fun cz => by first | exact absurd cz (by decide) | exact absurd (by decide) cz) (fun _ => ?_)
              refine Exists.intro _ (And.intro ho2 (Exists.intro _ (And.intro f57 ?_)))
              refine Exists.intro 3 (Exists.intro _ (Exists.intro _ (And.intro uph_eq (And.intro (Or.inr rfl) (And.intro (by rw [ea]; exact vp_in_nI (by omega) (by decide)) ?_)))))
              rw [ea, nI_clamp (by omega), hy, ← ea]
              cases y
              · refine And.intro (fun _ => ?_) (fun cz => by first | exact absurd cz (by decide) | exact absurd (by decide) cz)
                exact fin false _ ⟨rfl, rfl, rfl, rfl, rfl, rfl, rfl, trivial⟩ rfl
              · refine And.intro (fun cz => by first | exact absurd cz (by decide) | exact absurd (by decide) cz) (fun _ => ?_)
                exact fin true _ ⟨rfl, rfl, rfl, rfl, rfl, rfl, rfl, trivial⟩ rfl
          · rw [if_neg h50] at fin
            refine And.intro (fun _ => ?_) (fun cz => absurd ((nI_eq (by omega) (by decide)).mp (show nI k = nI 50 from cz)) h50)
            refine Exists.intro _ (And.intro ho2 (Exists.intro _ (And.intro f57 ?_)))
            refine Exists.intro 3 (Exists.intro _ (Exists.intro _ (And.intro uph_eq (And.intro (Or.inr rfl) (And.intro (by rw [ea, eb]; exact vp_in_nI (by omega) (by decide)) ?_)))))
            rw [ea, eb, nI_clamp (by omega), hx]
            rw [← eb, ← ea]
            cases x
            · refine And.intro (fun cz => by first | exact absurd cz (by decide) | exact absurd (by decide) cz) (fun _ => ?_)
              refine Exists.intro _ (And.intro ho2 (Exists.intro _ (And.intro f57 ?_)))
              refine Exists.intro 3 (Exists.intro _ (Exists.intro _ (And.intro uph_eq (And.intro (Or.inr rfl) (And.intro (by rw [ea]; exact vp_in_nI (by omega) (by decide)) ?_)))))
              rw [ea, nI_clamp (by omega), hy, ← ea]
              cases y
              · refine And.intro (fun _ => ?_) (fun cz => by first | exact absurd cz (by decide) | exact absurd (by decide) cz)
                exact fin false _ ⟨rfl, rfl, rfl, rfl, rfl, rfl, rfl, trivial⟩ rfl
              · refine And.intro (fun cz => by first | exact absurd cz (by decide) | exact absurd (by decide) cz) (fun _ => ?_)
                exact fin true _ ⟨rfl, rfl, rfl, rfl, rfl, rfl, rfl, trivial⟩ rfl
            · refine And.intro (fun _ => ?_) (fun cz => by first | exact absurd cz (by decide) | exact absurd (by decide) cz)
              exact fin true _ ⟨rfl, rfl, rfl, rfl, rfl, rfl, rfl, trivial⟩ rfl
  refine en_X12_holds hX [11] 40 rfl ?_
  refine Exists.intro _ (And.intro ho (Exists.intro _ (And.intro f37 ?_)))
  refine Exists.intro _ (Exists.intro _ (And.intro h37 (And.intro (vp_in_nI hc (by decide)) ?_)))
  rw [nI_clamp (by omega), hf]
  have hl := loop codes 0 [] gP rfl (Nat.zero_add _) (Nat.le_refl _) trivial hv
  rw [uph_self h57] at hl
  exact go_loc (lv' := [(6, .int (nI from_)), (5, .int (nI 0)), (0, .ref o), (1, .int (nI c)), (2, .int (nI on)), (3, .int (nI up)), (4, .int (nI d))]) ⟨rfl, rfl, rfl, rfl, rfl, rfl, rfl, trivial⟩ hl
