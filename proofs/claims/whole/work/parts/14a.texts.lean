/-! the text constants -/
def lenS : List Nat := [3, 5, 5, 4, 4, 5, 5, 2, 7]
def bytS : List (List Int32) := [byS 0, byS 1, byS 2, byS 3, byS 4, byS 5, byS 6, byS 7, byS 8]
/-- what stays: the texts, where they are, two statics of the JDK -/
def XS (A : Nat → Prop) (ad adV : Nat → Nat) (U : State) : Prop :=
  vk_S 9 lenS bytS ad adV A U U.heap ∧ (∀ q ∈ SRt, vk_R (RN q.1) q.2.1 (txS q.2.2) (ad q.2.2) U) ∧ va_Z "java/lang/String" "COMPACT_STRINGS" "Z" (.int 1) A U U.heap ∧ va_Zq "jdk/internal/util/Preconditions" "SIOOBE_FORMATTER" "Ljava/util/function/BiFunction;" A U U.heap
theorem XS_XC {D : va_G} {t : Nat → ClassId} {A : Nat → Prop} {ad adV : Nat → Nat} : XC (D, t, A, XS A ad adV, ad) := fun u U hW hq h =>
  ⟨(vk_S.moved hW.alike h.1).kept hq, fun q hqq => vk_R.warm hW (h.2.1 q hqq), (va_Z.moved hW.alike h.2.2.1).kept hq, (va_Zq.moved hW.alike h.2.2.2).kept hq⟩
theorem S_at : ∀ {i : Nat}, i < 9 → lenS.getD i 0 = (byS i).length ∧ bytS.getD i [] = byS i ∧ (byS i).length < 100
  | 0, _ | 1, _ | 2, _ | 3, _ | 4, _ | 5, _ | 6, _ | 7, _ | 8, _ => by decide
  | n + 9, h => absurd h (by omega)
section JD
variable {l : Launch} {G : GG} {own : Nat} {g : SG} {mc ms : Nat} {Post : Option Value → AH → Nat → Prop} {pc : Nat} {lv : LV} {r : List Value} {h : AH} {nx k n : Nat}
theorem go_gets {i : Nat} {C9 nm d : String} {v : Value} (hd : decode g.2.1 pc = .ok (.getstatic i, 3)) (hw : Cond.fieldLink (RN own) i C9 nm d ∈ TB) (hZ : ∀ s : State, G.2.2.2.1 s → va_Z C9 nm d v G.2.2.1 s s.heap) (kk : Go l G own g mc ms Post (pc + 3) lv (v :: r) h nx k n) : Go l G own g mc ms Post pc lv r h nx k n :=
  fun p e R s m args below meth c C H locs ls hR hS hl hk hn => va_gets C.1 C.2.1 (hZ s C.2.2.2.2.2.2.2.2.2.2.2.2.1) hS C.2.2.2.2.1 (C.2.2.2.2.2.1 _ hw) (fun _ h9 => h9) hd (kk p e R s m args below meth c C H locs ls hR hS hl hk hn)
theorem go_getsq {i : Nat} {C9 nm d : String} (hd : decode g.2.1 pc = .ok (.getstatic i, 3)) (hw : Cond.fieldLink (RN own) i C9 nm d ∈ TB) (hZ : ∀ s : State, G.2.2.2.1 s → va_Zq C9 nm d G.2.2.1 s s.heap) (kk : ∀ v : Value, (v = .null ∨ ∃ t, v = .ref t) → Go l G own g mc ms Post (pc + 3) lv (v :: r) h nx k n) : Go l G own g mc ms Post pc lv r h nx k n :=
  fun p e R s m args below meth c C H locs ls hR hS hl hk hn => by
    rcases hZ s C.2.2.2.2.2.2.2.2.2.2.2.2.1 with hz | ⟨t, hz⟩
    · exact va_gets C.1 C.2.1 hz hS C.2.2.2.2.1 (C.2.2.2.2.2.1 _ hw) (fun _ h9 => h9) hd (kk _ (Or.inl rfl) p e R s m args below meth c C H locs ls hR hS hl hk hn)
    · exact va_gets C.1 C.2.1 hz hS C.2.2.2.2.1 (C.2.2.2.2.2.1 _ hw) (fun _ h9 => h9) hd (kk _ (Or.inr ⟨t, rfl⟩) p e R s m args below meth c C H locs ls hR hS hl hk hn)
theorem go_getT {i q : Nat} {nm d : String} {v : Value} (hd : decode g.2.1 pc = .ok (.getfield i, 3)) (hw : Cond.fieldLink (RN own) i "java/lang/String" nm d ∈ TB) (hE : ∀ s : State, G.2.2.2.1 s → va_OF "java/lang/String" nm d v q G.2.2.1 s s.heap) (kk : Go l G own g mc ms Post (pc + 3) lv (v :: r) h nx k n) : Go l G own g mc ms Post pc lv (.ref q :: r) h nx k n :=
  fun p e R s m args below meth c C H locs ls hR hS hl hk hn => vk_getf C.1 C.2.1 (hE s C.2.2.2.2.2.2.2.2.2.2.2.2.1) hS C.2.2.2.2.1 (C.2.2.2.2.2.1 _ hw) (fun _ h9 => h9) hd (kk p e R s m args below meth c C H locs ls hR hS hl hk hn)
theorem go_tb {q N : Nat} {f : Nat → Value} {i : Int32} (hd : decode g.2.1 pc = .ok (.baload, 1)) (hT : ∀ s : State, G.2.2.2.1 s → va_T .byte q N f G.2.2.1 s s.heap) (hi : vp_in i N) (kk : Go l G own g mc ms Post (pc + 1) lv (f i.toNatClampNeg :: r) h nx k n) : Go l G own g mc ms Post pc lv (.int i :: .ref q :: r) h nx k n :=
  fun p e R s m args below meth c C H locs ls hR hS hl hk hn => va_tb C.1 C.2.1 (hT s C.2.2.2.2.2.2.2.2.2.2.2.2.1) hS hi rfl hd (kk p e R s m args below meth c C H locs ls hR hS hl hk hn)
theorem go_tlen {q N : Nat} {f : Nat → Value} (hd : decode g.2.1 pc = .ok (.arraylength, 1)) (hT : ∀ s : State, G.2.2.2.1 s → va_T .byte q N f G.2.2.1 s s.heap) (kk : Go l G own g mc ms Post (pc + 1) lv (.int (Int32.ofNat N) :: r) h nx k n) : Go l G own g mc ms Post pc lv (.ref q :: r) h nx k n :=
  fun p e R s m args below meth c C H locs ls hR hS hl hk hn => va_tlen C.1 C.2.1 (hT s C.2.2.2.2.2.2.2.2.2.2.2.2.1) hS rfl hd (kk p e R s m args below meth c C H locs ls hR hS hl hk hn)
theorem go_strV {i a b q : Nat} {As : List Value} {v : Int32} (hb : (sg b).1.cls = "java/lang/String") (hd : decode g.2.1 pc = .ok (.invokevirtual i, 3)) (hc : (rmOK g b && (mdOK b a 0 true && mlOK own i b)) = true) (hla : As.length = a) (hcs : Nat.ble (csum r) 8 = true) (hO : ∀ s : State, G.2.2.2.1 s → va_O "java/lang/String" q G.2.2.1 s s.heap) (hrun : ∀ P : Option Value → AH → Nat → Prop, P (some (.int v)) h nx → Runs l G b 0 0 (.ref q :: As) h nx P) (kk : Go l G own g mc ms Post (pc + 3) lv (.int v :: r) h nx k n) : Go l G own g mc ms Post pc lv (As.reverse ++ .ref q :: r) h nx k n := by
  rw [Bool.and_eq_true, Bool.and_eq_true] at hc
  obtain ⟨hrm, hmd, hln⟩ := hc
  obtain ⟨w1, w2, w3, w4⟩ := mdOK_spec hmd
  intro p e R s m args below meth c C H locs ls hR hS hl hk hn
  have hts := C.2.2.2.2.2.1
  have hf : k + 0 ≤ R.cells ∧ n + 0 ≤ R.slots := ⟨Nat.le_trans hk C.2.2.2.2.2.2.2.2.1.2.2.1, Nat.le_trans hn C.2.2.2.2.2.2.2.2.1.2.2.2⟩
  obtain ⟨cell, g1, g2, g3, g4⟩ := hO s C.2.2.2.2.2.2.2.2.2.2.2.2.1
  have g5 : q < s.heap.size := (Array.getElem?_eq_some_iff.mp g1).1
  refine am_call (Post := fun u h1 nx1 => u = some (.int v) ∧ h1 = h ∧ nx1 = nx) (a := (Value.ref q :: As).toArray) (c1 := 0) (s1 := 0) ?_ hS (fun u h1' nx1 H1 locs1 hp hR1 hS1 => by
    obtain ⟨e1, e2, e3⟩ := hp
    rw [e2, e3] at hR1
    rw [e1]
    exact kk p e R s m args below meth c C H1 locs1 ls hR1 hS1 hl hk hn)
  exact va_runV (index := i) (C := "java/lang/String") ⟨C.1, C.2.1, C.2.2.1, C.2.2.2.2.1, hts⟩ (hrun _ ⟨rfl, rfl, rfl⟩) ⟨callB_of a hts (good_TB b) rfl rfl rfl (hts _ w1) (hts _ (mlOK_spec hln)) w4 (rmOK_spec C hrm 0 0), hts _ w2, by rw [← hb]; exact hts _ (w3 rfl)⟩ ⟨blind (.ref q :: As) h nx C.2.2.2.2.2.2.2.2.2.2.2.2.2, ⟨cell, by rw [hS.2.1 _ g5 g4]; exact g1, g2, g3⟩, fun U hU hW => ⟨rfl, preS C hR hS U hU hW⟩⟩ rfl hla hl.1 rfl (mr0 (csumOK _ hcs)) hd hf
end JD
section JM
variable {l : Launch} {G : GG} {adV : Nat → Nat} {h : AH} {nx i : Nat} {Post : Option Value → AH → Nat → Prop}
theorem fl_cs : Cond.fieldLink (RN 20) 38 "java/lang/String" "COMPACT_STRINGS" "Z" ∈ TB := wAt_ok (i := 362) (by decide +kernel)
theorem fl_va : Cond.fieldLink (RN 20) 9 "java/lang/String" "value" "[B" ∈ TB := wAt_ok (i := 2376) (by decide +kernel)
theorem fl_co : Cond.fieldLink (RN 20) 15 "java/lang/String" "coder" "B" ∈ TB := wAt_ok (i := 2377) (by decide +kernel)
theorem fl_fo : Cond.fieldLink (RN 20) 1053 "jdk/internal/util/Preconditions" "SIOOBE_FORMATTER" "Ljava/util/function/BiFunction;" ∈ TB := wAt_ok (i := 378) (by decide +kernel)
theorem c_coder (hX : XC G) (hS : ∀ s : State, G.2.2.2.1 s → XS G.2.2.1 G.2.2.2.2 adV s) (hi : i < 9) (hP : Post (some (.int 0)) h nx) : Runs l G i_J0_coder_7d493 0 0 [.ref (G.2.2.2.2 i)] h nx Post := by
  refine en_J0_coder_7d493 hX [] 0 rfl ?_
  refine go_gets (v := .int 1) (by decide +kernel) fl_cs (fun s hs => (hS s hs).2.2.1) ?_
  refine Go.of0 (by decide +kernel) ck_J0_coder_7d493 [7] 10 ?_
  refine And.intro (fun c1 => absurd c1 (by decide)) (fun c1 => ?_)
  refine go_getT (v := .int 0) (by decide +kernel) fl_co (fun s hs => ((hS s hs).1.1 i hi).2.1) ?_
  refine Go.of0 (by decide +kernel) ck_J0_coder_7d493 [] 10 ?_
  exact And.intro rfl hP
theorem c_isLatin1 (hX : XC G) (hS : ∀ s : State, G.2.2.2.1 s → XS G.2.2.1 G.2.2.2.2 adV s) (hi : i < 9) (hP : Post (some (.int 1)) h nx) : Runs l G i_J0_isLatin1_aae02 0 0 [.ref (G.2.2.2.2 i)] h nx Post := by
  refine en_J0_isLatin1_aae02 hX [] 0 rfl ?_
  refine go_gets (v := .int 1) (by decide +kernel) fl_cs (fun s hs => (hS s hs).2.2.1) ?_
  refine Go.of0 (by decide +kernel) ck_J0_isLatin1_aae02 [7] 10 ?_
  refine And.intro (fun c1 => absurd c1 (by decide)) (fun c1 => ?_)
  refine go_getT (v := .int 0) (by decide +kernel) fl_co (fun s hs => ((hS s hs).1.1 i hi).2.1) ?_
  refine Go.of0 (by decide +kernel) ck_J0_isLatin1_aae02 [] 10 ?_
  refine And.intro (fun c2 => absurd rfl c2) (fun c2 => ?_)
  exact And.intro rfl hP
theorem c_length (hX : XC G) (hS : ∀ s : State, G.2.2.2.1 s → XS G.2.2.1 G.2.2.2.2 adV s) (hi : i < 9) (hP : Post (some (.int (nI (byS i).length))) h nx) : Runs l G i_J0_length_8abf5 0 0 [.ref (G.2.2.2.2 i)] h nx Post := by
  refine en_J0_length_8abf5 hX [1] 10 rfl ?_
  refine go_getT (v := .ref (adV i)) (by decide +kernel) fl_va (fun s hs => ((hS s hs).1.1 i hi).2.2.1) ?_
  refine go_tlen (by decide +kernel) (fun s hs => ((hS s hs).1.1 i hi).2.2.2) ?_
  refine Go.of0 (by decide +kernel) ck_J0_length_8abf5 [6] 10 ?_
  refine go_strV (As := []) (a := 0) (i := 335) (b := i_J0_coder_7d493) (v := 0) rfl (by decide +kernel) (by decide +kernel) rfl rfl (fun s hs => ((hS s hs).1.1 i hi).1) (fun P hP => c_coder hX hS hi hP) ?_
  refine Go.of0 (by decide +kernel) ck_J0_length_8abf5 [] 10 ?_
  rw [(S_at hi).1]
  have e : Int32.ofNat (byS i).length >>> ((0 : Int32) &&& 31) = nI (byS i).length := by
    match i, hi with
    | 0, _ | 1, _ | 2, _ | 3, _ | 4, _ | 5, _ | 6, _ | 7, _ | 8, _ => decide
  refine And.intro rfl ?_
  rw [e]
  exact hP
theorem ch_ok : ∀ i, i < 9 → ∀ k, k < (byS i).length → ((((byS i).getD k 0) &&& 255).toUInt32 % 65536).toInt32 = (byS i).getD k 0 ∧ narrow .char (.int ((byS i).getD k 0)) = .int ((byS i).getD k 0) := by decide +kernel
theorem c_pre {k n : Nat} {v : Value} (hX : XC G) (hk : k < n) (hn : n < 100) (hv : v = .null ∨ ∃ t, v = .ref t) (hP : Post (some (.int (nI k))) h nx) : Runs l G i_J3_checkIndex_8e157 0 0 [.int (nI k), .int (nI n), v] h nx Post := by
  rcases hv with rfl | ⟨t, rfl⟩
  · refine en_J3_checkIndex_8e157 hX [] 10 rfl ?_
    refine And.intro (fun c1 => absurd c1 (nI_pos (by omega))) (fun c1 => ?_)
    refine And.intro (fun c2 => ?_) (fun c2 => absurd (nI_lt hk (by omega)) c2)
    exact And.intro rfl hP
  · refine en_J3_checkIndex_8e157 hX [] 10 rfl ?_
    refine And.intro (fun c1 => absurd c1 (nI_pos (by omega))) (fun c1 => ?_)
    refine And.intro (fun c2 => ?_) (fun c2 => absurd (nI_lt hk (by omega)) c2)
    exact And.intro rfl hP
theorem c_checkIndex {k n : Nat} (hX : XC G) (hS : ∀ s : State, G.2.2.2.1 s → XS G.2.2.1 G.2.2.2.2 adV s) (hk : k < n) (hn : n < 100) (hP : Post none h nx) : Runs l G i_J0_checkIndex_df160 0 0 [.int (nI k), .int (nI n)] h nx Post := by
  refine en_J0_checkIndex_df160 hX [2] 5 rfl ?_
  refine go_getsq (by decide +kernel) fl_fo (fun s hs => (hS s hs).2.2.2) (fun v hv => ?_)
  refine Go.of0 (by decide +kernel) ck_J0_checkIndex_df160 [] 10 ?_
  refine Exists.intro 0 (Exists.intro 0 (And.intro (Nat.le_refl _) (And.intro (Nat.le_refl _) (c_pre hX hk hn hv ?_))))
  exact hP
theorem c_L1charAt {k : Nat} (hX : XC G) (hS : ∀ s : State, G.2.2.2.1 s → XS G.2.2.1 G.2.2.2.2 adV s) (hi : i < 9) (hk : k < (byS i).length) (hP : Post (some (.int ((byS i).getD k 0))) h nx) : Runs l G i_J1_charAt_3b067 0 0 [.ref (adV i), .int (nI k)] h nx Post := by
  obtain ⟨e1, e2, e3⟩ := S_at hi
  obtain ⟨e4, e5⟩ := ch_ok i hi k hk
  refine en_J1_charAt_3b067 hX [2] 5 rfl ?_
  refine go_tlen (by decide +kernel) (fun s hs => ((hS s hs).1.1 i hi).2.2.2) ?_
  rw [e1]
  refine Go.of0 (by decide +kernel) ck_J1_charAt_3b067 [8] 10 ?_
  refine Exists.intro 0 (Exists.intro 0 (And.intro (Nat.le_refl _) (And.intro (Nat.le_refl _) (c_checkIndex hX hS hk e3 ?_))))
  refine go_tb (by decide +kernel) (fun s hs => ((hS s hs).1.1 i hi).2.2.2) (by rw [e1]; exact vp_in_nI hk (by omega)) ?_
  rw [nI_clamp (by omega), e2]
  refine Go.of0 (by decide +kernel) ck_J1_charAt_3b067 [] 10 ?_
  exact (show narrow .char (.int (((((byS i).getD k 0) &&& 255).toUInt32 % 65536).toInt32)) = .int (((((byS i).getD k 0) &&& 255).toUInt32 % 65536).toInt32) ∧ Post (some (.int (((((byS i).getD k 0) &&& 255).toUInt32 % 65536).toInt32))) h nx from by rw [e4]; exact ⟨e5, hP⟩)
theorem c_charAt {k : Nat} (hX : XC G) (hS : ∀ s : State, G.2.2.2.1 s → XS G.2.2.1 G.2.2.2.2 adV s) (hi : i < 9) (hk : k < (byS i).length) (hP : Post (some (.int ((byS i).getD k 0))) h nx) : Runs l G i_J0_charAt_5068e 0 0 [.ref (G.2.2.2.2 i), .int (nI k)] h nx Post := by
  refine en_J0_charAt_5068e hX [1] 5 rfl ?_
  refine go_strV (As := []) (a := 0) (i := 492) (b := i_J0_isLatin1_aae02) (v := 1) rfl (by decide +kernel) (by decide +kernel) rfl rfl (fun s hs => ((hS s hs).1.1 i hi).1) (fun P hP => c_isLatin1 hX hS hi hP) ?_
  refine Go.of0 (by decide +kernel) ck_J0_charAt_5068e [8] 10 ?_
  refine And.intro (fun c1 => absurd c1 (by decide)) (fun c1 => ?_)
  refine go_getT (v := .ref (adV i)) (by decide +kernel) fl_va (fun s hs => ((hS s hs).1.1 i hi).2.2.1) ?_
  refine Go.of0 (by decide +kernel) ck_J0_charAt_5068e [] 10 ?_
  refine Exists.intro 0 (Exists.intro 0 (And.intro (Nat.le_refl _) (And.intro (Nat.le_refl _) (c_L1charAt hX hS hi hk ?_))))
  exact And.intro (ch_ok i hi k hk).2 hP
end JM
