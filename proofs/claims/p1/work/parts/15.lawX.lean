/-! the texts and statics at the law's start -/
def ixS : Nat → Nat := fun i => match i with
  | 0 => 9
  | 1 => 17
  | 2 => 19
  | 3 => 21
  | 4 => 23
  | 5 => 25
  | 6 => 27
  | 7 => 29
  | _ => 93
def tmS (i : Nat) : Term := .string "RelayHut$Tokens" (ixS i)
abbrev vaS (i : Nat) : Term := .field (tmS i) "java/lang/String" "value" "[B"
abbrev FLn : List Cond := flatC (Jvm.Cond.and given_1 narrow_1)
theorem SR_w : ∀ q ∈ SRt, lw_tbl[(match q.2.2 with | 0 => 350 | 8 => 802 | i => 405 + i)]? = some (Cond.stringRef (RN q.1) q.2.1 (txS q.2.2)) ∧ q.2.2 < 9 ∧ RN q.1 = "RelayHut$Tokens" ∧ q.2.1 = ixS q.2.2 := by decide +kernel
set_option maxRecDepth 20000 in
theorem law_X {args : Array Value} {s : State} {A : Nat → Prop} (hgv : (Jvm.Cond.and given_1 narrow_1).before args s = true) (hts : ∀ w ∈ lw_tbl, w.before args s = true) (hA : ∀ a : Nat, a < s.heap.size → ¬ A a) : ∃ ad adV : Nat → Nat, XS A ad adV s := by
  have hs := flat_of_before _ hgv
  obtain ⟨ad, adV, hS, hev⟩ := vk_Sof (N := 9) (tm := tmS) (len := lenS) (byt := bytS) (A := A) (args := args) (s := s) (by decide)
    (fun i hi => hs _ ((by decide +kernel : ∀ i, i < 9 → (Cond.exactly (tmS i) "java/lang/String") ∈ FLn) i hi))
    (fun i hi => hs _ ((by decide +kernel : ∀ i, i < 9 → (Cond.eq (.field (tmS i) "java/lang/String" "coder" "B") (.int 0)) ∈ FLn) i hi))
    (fun i hi => hs _ ((by decide +kernel : ∀ i, i < 9 → (Cond.arrayOf (vaS i) .byte) ∈ FLn) i hi))
    (fun i hi => hs _ ((by decide +kernel : ∀ i, i < 9 → (Cond.eq (.length (vaS i)) (.int (Int32.ofNat (lenS.getD i 0)))) ∈ FLn) i hi))
    (fun i hi j hj => hs _ ((by decide +kernel : ∀ i, i < 9 → ∀ j, j < lenS.getD i 0 → (Cond.eq (.elem (vaS i) (.int (Int32.ofNat j))) (.int ((bytS.getD i []).getD j 0))) ∈ FLn) i hi j hj))
    (fun i j hi hj hij => ((by decide +kernel : ∀ i, i < 9 → ∀ j, j < 9 → i ≠ j → (Cond.not (Cond.eq (tmS i) (tmS j))) ∈ FLn ∨ (Cond.not (Cond.eq (tmS j) (tmS i))) ∈ FLn) i hi j hj hij).imp (hs _) (hs _)) hA
  refine ⟨ad, adV, hS, fun q hq => ?_, ?_, ?_⟩
  · obtain ⟨h1, h2, h3, h4⟩ := SR_w q hq
    have h5 := hts _ (List.mem_of_getElem? h1)
    have h6 := hev q.2.2 h2
    rw [h3, h4] at h5 ⊢
    exact vk_R.of h5 h6
  · exact va_Zof (hts _ (List.mem_of_getElem? (i := 363) (by decide +kernel))) (hts _ (TB_lw _ (mdOK_spec (b := 317) (a := 0) (st := 0) (sel := true) (by decide +kernel)).1)) (va_eqt (hs _ (by decide +kernel))) hA
  · exact va_Zqof (hts _ (List.mem_of_getElem? (i := 379) (by decide +kernel))) (hts _ (List.mem_of_getElem? (i := 141) (by decide +kernel))) (hs _ (by decide +kernel)) hA
