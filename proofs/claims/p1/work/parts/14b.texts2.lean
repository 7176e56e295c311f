section JI
variable {l : Launch} {G : GG} {adV : Nat → Nat} {h : AH} {nx i : Nat} {Post : Option Value → AH → Nat → Prop}
theorem ixF_cons {c b : Int32} {r : List Int32} {k : Nat} : ixF c (b :: r) k = if b = c then nI k else ixF c r (k + 1) := rfl
theorem ixF_out {c : Int32} : ∀ (bs : List Int32) (k : Nat), (∀ b ∈ bs, ¬ b = c) → ixF c bs k = -1
  | [], _, _ => rfl
  | b :: r, k, h => by
    unfold ixF
    rw [if_neg (h b List.mem_cons_self)]
    exact ixF_out r (k + 1) (fun x hx => h x (List.mem_cons_of_mem _ hx))
theorem by_ok : ∀ i, i < 9 → ∀ b ∈ byS i, (0 ≤ b ∧ b ≤ 255) ∧ ∀ n, n < 256 → (b = (nI n).toInt8.toInt32 ↔ b = nI n) := by decide +kernel
theorem c_canEncode {x : Int32} (hX : XC G) (hP : Post (some (.int (if 0 ≤ x ∧ x ≤ 255 then 1 else 0))) h nx) : Runs l G i_J1_canEncode_9a6ad 0 0 [.int x] h nx Post := by
  refine en_J1_canEncode_9a6ad hX [] 10 rfl ?_
  refine And.intro (fun c1 => ?_) (fun c1 => ?_)
  · rw [if_neg (fun z => absurd c1 (Int32.not_lt.mpr z.1))] at hP
    exact And.intro rfl hP
  · refine And.intro (fun c2 => ?_) (fun c2 => ?_)
    · rw [if_neg (fun z => absurd c2 (Int32.not_lt.mpr z.2))] at hP
      exact And.intro rfl hP
    · rw [if_pos ⟨Int32.not_lt.mp c1, Int32.not_lt.mp c2⟩] at hP
      exact And.intro rfl hP
set_option maxHeartbeats 2000000 in
theorem c_indexOfChar {m : Nat} (hX : XC G) (hS : ∀ s : State, G.2.2.2.1 s → XS G.2.2.1 G.2.2.2.2 adV s) (hi : i < 9) (hm : m < 256) (hP : Post (some (.int (ixF (nI m) (byS i) 0))) h nx) : Runs l G i_J1_indexOfChar_4cfef 0 0 [.ref (adV i), .int (nI m), .int 0, .int (nI (byS i).length)] h nx Post := by
  obtain ⟨e1, e2, e3⟩ := S_at hi
  have loop : ∀ (bs : List Int32) (k : Nat), (byS i).drop k = bs → k + bs.length = (byS i).length → ixF (nI m) bs k = ixF (nI m) (byS i) 0 → Go l G 18 s_J1_indexOfChar_4cfef 0 0 Post 7 [(5, .int (nI k)), (4, .int (nI m).toInt8.toInt32), (0, .ref (adV i)), (3, .int (nI (byS i).length))] [] h nx 0 0 := by
    intro bs
    induction bs with
    | nil =>
      intro k h1 h2 h3
      simp only [List.length_nil, Nat.add_zero] at h2
      refine Go.of0 (by decide +kernel) ck_J1_indexOfChar_4cfef [7] 10 ?_
      refine And.intro (fun c1 => ?_) (fun c1 => absurd (nI_le (by omega) (by omega)) c1)
      rw [← h3] at hP
      exact And.intro rfl hP
    | cons b r ih =>
      intro k h1 h2 h3
      simp only [List.length_cons] at h2
      have hk : k < (byS i).length := by omega
      have hb : (byS i).getD k 0 = b := by
        rw [List.getD_eq_getElem?_getD, ← Nat.add_zero k, ← List.getElem?_drop, h1]
        rfl
      have hbm : b ∈ byS i := List.mem_of_mem_drop (i := k) (by rw [h1]; exact List.mem_cons_self)
      have hbi := (by_ok i hi b hbm).2 m hm
      refine Go.of0 (by decide +kernel) ck_J1_indexOfChar_4cfef [16] 10 ?_
      refine And.intro (fun c1 => absurd c1 (nI_ge (by omega) (by omega))) (fun c1 => ?_)
      refine go_tb (by decide +kernel) (fun s hs => ((hS s hs).1.1 i hi).2.2.2) (by rw [e1]; exact vp_in_nI hk (by omega)) ?_
      rw [nI_clamp (by omega), e2, hb]
      refine Go.of0 (by decide +kernel) ck_J1_indexOfChar_4cfef [7] 10 ?_
      rw [ixF_cons] at h3
      refine And.intro (fun c2 => ?_) (fun c2 => ?_)
      · rw [if_neg (fun z => c2 (hbi.mpr z))] at h3
        refine go_loc (lv' := [(5, .int (nI k + 1)), (4, .int (nI m).toInt8.toInt32), (0, .ref (adV i)), (3, .int (nI (byS i).length))]) ⟨rfl, rfl, rfl, rfl, trivial⟩ ?_
        rw [← nI_succ]
        refine ih (k + 1) ?_ (by omega) h3
        rw [← List.drop_drop, h1]
        rfl
      · rw [if_pos (hbi.mp c2)] at h3
        rw [← h3] at hP
        exact And.intro rfl hP
  refine en_J1_indexOfChar_4cfef hX [7] 10 rfl ?_
  exact go_loc (lv' := [(5, .int (nI 0)), (4, .int (nI m).toInt8.toInt32), (0, .ref (adV i)), (3, .int (nI (byS i).length))]) ⟨rfl, rfl, rfl, rfl, trivial⟩ (loop (byS i) 0 rfl (Nat.zero_add _) rfl)
set_option maxHeartbeats 2000000 in
theorem c_L1indexOf {x : Int32} (hX : XC G) (hS : ∀ s : State, G.2.2.2.1 s → XS G.2.2.1 G.2.2.2.2 adV s) (hi : i < 9) (hP : Post (some (.int (ixF x (byS i) 0))) h nx) : Runs l G i_J1_indexOf_4cfef 0 0 [.ref (adV i), .int x, .int 0, .int (nI (byS i).length)] h nx Post := by
  obtain ⟨e1, e2, e3⟩ := S_at hi
  have epos : 0 < (byS i).length := by
    match i, hi with
    | 0, _ | 1, _ | 2, _ | 3, _ | 4, _ | 5, _ | 6, _ | 7, _ | 8, _ => decide
  refine en_J1_indexOf_4cfef hX [17] 20 rfl ?_
  refine Exists.intro 0 (Exists.intro 0 (And.intro (Nat.le_refl _) (And.intro (Nat.le_refl _) (c_canEncode hX ?_))))
  by_cases hx : 0 ≤ x ∧ x ≤ 255
  · rw [if_pos hx]
    obtain ⟨m, hm, rfl⟩ := nI_of2 (M := 255) (n := 255) (by decide) (Int32.not_lt.mpr hx.1) hx.2
    refine And.intro (fun c1 => ?_) (fun c1 => absurd c1 (by decide))
    refine And.intro rfl ?_
    refine go_tlen (by decide +kernel) (fun s hs => ((hS s hs).1.1 i hi).2.2.2) ?_
    rw [e1]
    refine Go.of0 (by decide +kernel) ck_J1_indexOf_4cfef [] 20 ?_
    refine And.intro rfl ?_
    have emin : (if Int32.ofNat (byS i).length < nI (byS i).length then Int32.ofNat (byS i).length else nI (byS i).length) = nI (byS i).length := ite_self _
    rw [emin]
    refine And.intro (fun c2 => ?_) (fun c2 => ?_)
    · refine Exists.intro 0 (Exists.intro 0 (And.intro (Nat.le_refl _) (And.intro (Nat.le_refl _) ?_)))
      exact c_indexOfChar hX hS hi (by omega) (And.intro rfl hP)
    · exact absurd (nI_lt (a := 0) epos (by omega)) c2
  · rw [if_neg hx]
    refine And.intro (fun c1 => absurd rfl c1) (fun c1 => ?_)
    rw [ixF_out (c := x) _ _ (fun b hb z => hx (by rw [← z]; exact (by_ok i hi b hb).1))] at hP
    exact And.intro rfl hP
theorem c_indexOf2 {x : Int32} (hX : XC G) (hS : ∀ s : State, G.2.2.2.1 s → XS G.2.2.1 G.2.2.2.2 adV s) (hi : i < 9) (hP : Post (some (.int (ixF x (byS i) 0))) h nx) : Runs l G i_J0_indexOf_7cf53 0 0 [.ref (G.2.2.2.2 i), .int x, .int 0] h nx Post := by
  refine en_J0_indexOf_7cf53 hX [1] 5 rfl ?_
  refine go_strV (As := []) (a := 0) (i := 492) (b := i_J0_isLatin1_aae02) (v := 1) rfl (by decide +kernel) (by decide +kernel) rfl rfl (fun s hs => ((hS s hs).1.1 i hi).1) (fun P hP => c_isLatin1 hX hS hi hP) ?_
  refine Go.of0 (by decide +kernel) ck_J0_indexOf_7cf53 [8] 10 ?_
  refine And.intro (fun c1 => absurd c1 (by decide)) (fun c1 => ?_)
  refine go_getT (v := .ref (adV i)) (by decide +kernel) fl_va (fun s hs => ((hS s hs).1.1 i hi).2.2.1) ?_
  refine Go.of0 (by decide +kernel) ck_J0_indexOf_7cf53 [14] 10 ?_
  refine go_strV (As := []) (a := 0) (i := 505) (b := i_J0_length_8abf5) (v := nI (byS i).length) rfl (by decide +kernel) (by decide +kernel) rfl rfl (fun s hs => ((hS s hs).1.1 i hi).1) (fun P hP => c_length hX hS hi hP) ?_
  refine Go.of0 (by decide +kernel) ck_J0_indexOf_7cf53 [] 10 ?_
  refine Exists.intro 0 (Exists.intro 0 (And.intro (Nat.le_refl _) (And.intro (Nat.le_refl _) (c_L1indexOf hX hS hi ?_))))
  exact And.intro rfl hP
theorem c_indexOf {x : Int32} (hX : XC G) (hS : ∀ s : State, G.2.2.2.1 s → XS G.2.2.1 G.2.2.2.2 adV s) (hi : i < 9) (hP : Post (some (.int (ixF x (byS i) 0))) h nx) : Runs l G i_J0_indexOf_0f7a4 0 0 [.ref (G.2.2.2.2 i), .int x] h nx Post := by
  refine en_J0_indexOf_0f7a4 hX [3] 5 rfl ?_
  refine go_strV (As := [.int x, .int 0]) (a := 2) (i := 633) (b := i_J0_indexOf_7cf53) (v := ixF x (byS i) 0) rfl (by decide +kernel) (by decide +kernel) rfl rfl (fun s hs => ((hS s hs).1.1 i hi).1) (fun P hP => c_indexOf2 hX hS hi hP) ?_
  refine Go.of0 (by decide +kernel) ck_J0_indexOf_0f7a4 [] 10 ?_
  exact And.intro rfl hP
/-- what the text constants answer, out of what stays -/
theorem XS_TX (hX : XC G) (hS : ∀ s : State, G.2.2.2.1 s → XS G.2.2.1 G.2.2.2.2 adV s) : TX l G := by
  refine ⟨fun i s hi hs => ?_, fun s q hq hs => (hS s hs).2.1 q hq, fun i h nx Post hi hP => c_length hX hS hi hP, fun i k h nx Post hi hk hP => c_charAt hX hS hi hk hP, fun i x h nx Post hi hP => c_indexOf hX hS hi hP⟩
  obtain ⟨cell, g1, g2, g3, g4⟩ := ((hS s hs).1.1 i hi).1
  exact ⟨cell, g1, g2, g3, g4, (Array.getElem?_eq_some_iff.mp g1).1⟩
end JI
