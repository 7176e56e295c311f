/-! x's survey begins -/
theorem CR_S0 {val : Nat → Prop} {s : Nat} {gq go : Nat → Int32} {g0 : Nat → Int64} (hs : s < 64) (hv : val s) (hz : ∀ i, i < 32 → g0 i = 0) : CR val (S0F s) (upd gq 0 (nI s)) go (vp_updL g0 0 (g0 0 ||| ((1 : Int64) <<< ((nI s).toInt64 &&& 63)))) := by
  have hm : ∀ y, memB (S0F s).2.1 y (S0F s).1 = decide (s = y) := fun y => by
    show memB (upN (fun _ => 0) 0 s) y (0 + 1) = _
    rw [memB_up]
    exact Bool.or_false _
  refine ⟨fun j hj => ?_, fun on up ho hu => ?_, upd (fun _ => 0) s 1, upd (fun _ => 0) 0 (nI s), upd (fun _ => 0) 0 (-1), upd (fun _ => 0) 0 (-1), fun j hj => ?_, fun _ => ⟨pk_us, pk_us⟩, fun y hy => ?_, ?_⟩
  · have ej : j = 0 := by have hj2 : j < 1 := hj; omega
    subst ej
    refine ⟨?_, fun z => absurd z (Nat.lt_irrefl 0)⟩
    show upd gq 0 (nI s) 0 = nI (upN (fun _ => 0) 0 s 0)
    rw [upN_s]
    exact pk_us
  · rw [hm]
    by_cases e : on = 0
    · subst e
      rw [show vp_updL g0 0 (g0 0 ||| ((1 : Int64) <<< ((nI s).toInt64 &&& 63))) 0 = g0 0 ||| ((1 : Int64) <<< ((nI s).toInt64 &&& 63)) from if_pos rfl, bl_or, bl_bit s hs, hz 0 (by decide), bl_0, Bool.false_or]
      by_cases e2 : up = s
      · subst e2; rw [decide_eq_true rfl, decide_eq_true (by omega)]
      · rw [decide_eq_false e2, decide_eq_false (by omega)]
    · rw [show vp_updL g0 0 (g0 0 ||| ((1 : Int64) <<< ((nI s).toInt64 &&& 63))) on = g0 on from if_neg e, hz on ho, bl_0, decide_eq_false (by omega)]
  · have ej : j = 0 := by have hj2 : j < 1 := hj; omega
    subst ej
    refine ⟨?_, ?_, ?_, fun z => absurd z (Nat.lt_irrefl 0)⟩
    · show upd (fun _ => 0) 0 (nI s) 0 = nI (upN (fun _ => 0) 0 s 0)
      rw [upN_s]
      exact pk_us
    · show upN (fun _ => 0) 0 s 0 < 2048
      rw [upN_s]
      omega
    · show val (upN (fun _ => 0) 0 s 0)
      rw [upN_s]
      exact hv
  · rw [hm]
    by_cases e : s = y
    · subst e; rw [decide_eq_true rfl]; exact pk_us
    · rw [decide_eq_false e]; exact pk_un (Ne.symm e)
  · have h0 : (fun _ : Nat => (0 : Int32)) (0 + s) = 0 := rfl
    have hc := (cntC_off (c := 0) (B := 0) (u := s) (g := fun _ => (0 : Int32)) (x := 1) (by decide) h0 2048).2 (show s < 2048 by omega)
    have hc0 := cntC_all (c := 0) (B := 0) (g := fun _ => (0 : Int32)) (n := 2048) (fun j hj => rfl)
    rw [Nat.zero_add] at hc
    show cntC 0 0 (upd (fun _ => 0) s 1) 2048 + 1 = 2048
    omega
def SRF : BS := (0, fun _ => 0, fun _ => (0, 0), 1)
set_option maxHeartbeats 4000000 in
theorem c_startFrom {l : Launch} {G : GG} {h : AH} {nx : Nat} {Post : Option Value → AH → Nat → Prop} {val : Nat → Prop} {v u qq qo qn : Nat} {t ver : Int32} {gq go : Nat → Int32} {gs : Nat → Int64} {fs fu : List Value} (hX : XC G ∧ TX l G) (hv : h v = some (.inr (7, fs))) (hl : fs.length = 9) (f0 : fs[0]? = some (.ref u)) (f1 : fs[1]? = some (.ref qq)) (f2 : fs[2]? = some (.ref qo)) (f3 : fs[3]? = some (.ref qn)) (hu : h u = some (.inr (3, fu))) (u5 : fu[5]? = some (.int ver)) (hq : h qq = some (.inl (0, 2048, .inl gq))) (ho : h qo = some (.inl (0, 2048, .inl go))) (hn : h qn = some (.inl (1, 32, .inr (.inl gs)))) (hqo : qo ≠ qq) (hP1 : t < 0 → ∀ (h1 : AH) (fs1 : List Value) (gs1 : Nat → Int64), (∀ q, q ≠ v → q ≠ qq → q ≠ qo → q ≠ qn → h1 q = h q) → CX h1 v u fs1 qq qo qn SRF (-1) ver 0 gq go gs1 → Post none h1 nx) (ht : t < 0 ∨ ∃ s, t = nI s ∧ s < 64 ∧ val s ∧ (∀ (h1 : AH) (fs1 : List Value) (gq1 go1 : Nat → Int32) (gs1 : Nat → Int64), (∀ q, q ≠ v → q ≠ qq → q ≠ qo → q ≠ qn → h1 q = h q) → CX h1 v u fs1 qq qo qn (S0F s) (-1) ver 0 gq1 go1 gs1 → CR val (S0F s) gq1 go1 gs1 → Post none h1 nx)) : Runs l G i_X7_startFrom 0 0 [.ref v, .int t] h nx Post := by
  have huv : u ≠ v := fun e => by rw [e, hv] at hu; cases hu
  have nv1 : qq ≠ v := fun e => by rw [e, hv] at hq; cases hq
  have nv2 : qo ≠ v := fun e => by rw [e, hv] at ho; cases ho
  have nv3 : qn ≠ v := fun e => by rw [e, hv] at hn; cases hn
  have nq1 : qn ≠ qq := fun e => by rw [e, hq] at hn; cases hn
  have nq2 : qn ≠ qo := fun e => by rw [e, ho] at hn; cases hn
  have g1 : (((((fs.set 8 (.int ver)).set 7 (.int 0)).set 4 (.int 0)).set 5 (.int 0)).set 6 (.int (-1)))[1]? = some (.ref qq) := (get_set_ne (by decide)).trans ((get_set_ne (by decide)).trans ((get_set_ne (by decide)).trans ((get_set_ne (by decide)).trans ((get_set_ne (by decide)).trans f1))))
  have g0_ : (((((fs.set 8 (.int ver)).set 7 (.int 0)).set 4 (.int 0)).set 5 (.int 0)).set 6 (.int (-1)))[0]? = some (.ref u) := (get_set_ne (by decide)).trans ((get_set_ne (by decide)).trans ((get_set_ne (by decide)).trans ((get_set_ne (by decide)).trans ((get_set_ne (by decide)).trans f0))))
  have g2 : (((((fs.set 8 (.int ver)).set 7 (.int 0)).set 4 (.int 0)).set 5 (.int 0)).set 6 (.int (-1)))[2]? = some (.ref qo) := (get_set_ne (by decide)).trans ((get_set_ne (by decide)).trans ((get_set_ne (by decide)).trans ((get_set_ne (by decide)).trans ((get_set_ne (by decide)).trans f2))))
  have g3 : (((((fs.set 8 (.int ver)).set 7 (.int 0)).set 4 (.int 0)).set 5 (.int 0)).set 6 (.int (-1)))[3]? = some (.ref qn) := (get_set_ne (by decide)).trans ((get_set_ne (by decide)).trans ((get_set_ne (by decide)).trans ((get_set_ne (by decide)).trans ((get_set_ne (by decide)).trans f3))))
  have g4 : (((((fs.set 8 (.int ver)).set 7 (.int 0)).set 4 (.int 0)).set 5 (.int 0)).set 6 (.int (-1)))[4]? = some (.int 0) := (get_set_ne (by decide)).trans ((get_set_ne (by decide)).trans (get_set (by simp only [List.length_set]; omega)))
  have g5 : (((((fs.set 8 (.int ver)).set 7 (.int 0)).set 4 (.int 0)).set 5 (.int 0)).set 6 (.int (-1)))[5]? = some (.int 0) := (get_set_ne (by decide)).trans (get_set (by simp only [List.length_set]; omega))
  have g6 : (((((fs.set 8 (.int ver)).set 7 (.int 0)).set 4 (.int 0)).set 5 (.int 0)).set 6 (.int (-1)))[6]? = some (.int (-1)) := get_set (by simp only [List.length_set]; omega)
  have g7 : (((((fs.set 8 (.int ver)).set 7 (.int 0)).set 4 (.int 0)).set 5 (.int 0)).set 6 (.int (-1)))[7]? = some (.int 0) := (get_set_ne (by decide)).trans ((get_set_ne (by decide)).trans ((get_set_ne (by decide)).trans (get_set (by simp only [List.length_set]; omega))))
  have g8 : (((((fs.set 8 (.int ver)).set 7 (.int 0)).set 4 (.int 0)).set 5 (.int 0)).set 6 (.int (-1)))[8]? = some (.int ver) := (get_set_ne (by decide)).trans ((get_set_ne (by decide)).trans ((get_set_ne (by decide)).trans ((get_set_ne (by decide)).trans (get_set (by omega)))))
  have gl : (((((fs.set 8 (.int ver)).set 7 (.int 0)).set 4 (.int 0)).set 5 (.int 0)).set 6 (.int (-1))).length = 9 := by simp only [List.length_set]; exact hl
  refine en_X7_startFrom hX [] 120 rfl ?_
  refine Exists.intro _ (And.intro hv (Exists.intro _ (And.intro f0 ?_)))
  refine Exists.intro _ (And.intro hu (Exists.intro _ (And.intro u5 ?_)))
  refine Exists.intro _ (And.intro hv (And.intro (by omega) (And.intro rfl (And.intro rfl ?_))))
  refine Exists.intro _ (And.intro uph_eq (And.intro (by simp only [List.length_set]; omega) (And.intro rfl (And.intro rfl ?_))))
  refine Exists.intro _ (And.intro uph_eq (And.intro (by simp only [List.length_set]; omega) (And.intro rfl (And.intro rfl ?_))))
  refine Exists.intro _ (And.intro uph_eq (And.intro (by simp only [List.length_set]; omega) (And.intro rfl (And.intro rfl ?_))))
  refine Exists.intro _ (And.intro uph_eq (And.intro (by simp only [List.length_set]; omega) (And.intro rfl (And.intro rfl ?_))))
  simp only [uph_uph]
  refine Exists.intro _ (And.intro uph_eq (Exists.intro _ (And.intro g3 ?_)))
  refine Exists.intro 0 (Exists.intro 0 (And.intro (Nat.le_refl _) (And.intro (Nat.le_refl _) (c_fillL (v := 0) (N := 32) (f := gs) hX ((uph_ne nv3).trans hn) (by decide) (fun gz hz => ?_)))))
  by_cases hneg : t < 0
  · refine And.intro (fun cz => absurd hneg (Int32.not_lt.mpr cz)) (fun _ => ?_)
    refine Exists.intro _ (And.intro (by rw [uph_ne (Ne.symm nv3)]; exact uph_eq) (And.intro (by omega) (And.intro rfl (And.intro rfl ?_))))
    refine hP1 hneg _ ((((((fs.set 8 (.int ver)).set 7 (.int 0)).set 4 (.int 0)).set 5 (.int 0)).set 6 (.int (-1))).set 5 (.int 1)) gz (fun q x1 x2 x3 x4 => by rw [uph_ne x1, uph_ne x4, uph_ne x1]) ⟨uph_eq, by rw [List.length_set]; exact gl, (get_set_ne (by decide)).trans g0_, (get_set_ne (by decide)).trans g1, (get_set_ne (by decide)).trans g2, (get_set_ne (by decide)).trans g3, (get_set_ne (by decide)).trans g4, get_set (by omega), (get_set_ne (by decide)).trans g6, (get_set_ne (by decide)).trans g7, (get_set_ne (by decide)).trans g8, by rw [uph_ne nv1, uph_ne (Ne.symm nq1), uph_ne nv1]; exact hq, by rw [uph_ne nv2, uph_ne (Ne.symm nq2), uph_ne nv2]; exact ho, by rw [uph_ne nv3]; exact uph_eq⟩
  · obtain ⟨s, rfl, hs, hval, hp⟩ := ht.resolve_left hneg
    refine And.intro (fun _ => ?_) (fun cz => absurd (nI_pos' (by omega)) cz)
    refine Exists.intro _ (And.intro (by rw [uph_ne (Ne.symm nv3)]; exact uph_eq) (Exists.intro 0 (Exists.intro 0 (And.intro (Nat.le_refl _) (And.intro (Nat.le_refl _) (c_reachX (on := 0) (up := s) (fr := 0) (Fn := 0) (gs := gz) (gq := gq) (go := go) hX (by rw [uph_ne (Ne.symm nv3)]; exact uph_eq) gl g1 g2 g3 g4 uph_eq (by rw [uph_ne (Ne.symm nq1), uph_ne nv1]; exact hq) (by rw [uph_ne (Ne.symm nq2), uph_ne nv2]; exact ho) hqo (by decide) hs (fun _ => by decide) (fun z => ?_) (fun z => ?_)))))))
    · rw [hz 0 (by decide), bl_0] at z; cases z
    · refine hp _ ((((((fs.set 8 (.int ver)).set 7 (.int 0)).set 4 (.int 0)).set 5 (.int 0)).set 6 (.int (-1))).set 4 (.int (nI 1))) _ _ _ (fun q x1 x2 x3 x4 => by rw [uph_ne x1, uph_ne x3, uph_ne x2, uph_ne x4, uph_ne x4, uph_ne x1]) ⟨uph_eq, by rw [List.length_set]; exact gl, (get_set_ne (by decide)).trans g0_, (get_set_ne (by decide)).trans g1, (get_set_ne (by decide)).trans g2, (get_set_ne (by decide)).trans g3, get_set (by omega), (get_set_ne (by decide)).trans g5, (get_set_ne (by decide)).trans g6, (get_set_ne (by decide)).trans g7, (get_set_ne (by decide)).trans g8, by rw [uph_ne nv1, uph_ne (Ne.symm hqo)]; exact uph_eq, by rw [uph_ne nv2]; exact uph_eq, by rw [uph_ne nv3, uph_ne nq2, uph_ne nq1]; exact uph_eq⟩ ?_
      have e0 : 64 * 0 + s = s := by omega
      rw [e0]
      exact CR_S0 hs hval hz
