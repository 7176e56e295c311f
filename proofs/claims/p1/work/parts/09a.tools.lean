theorem uph_eq {h : AH} {a : Nat} {e : AE} : uph h a e a = some e := if_pos rfl
theorem uph_ne {h : AH} {a b : Nat} {e : AE} (hn : b ≠ a) : uph h a e b = h b := if_neg hn
theorem uph_uph {h : AH} {a : Nat} {e e' : AE} : uph (uph h a e) a e' = uph h a e' := by
  funext b
  unfold uph
  by_cases hb : b = a
  · rw [if_pos hb, if_pos hb]
  · rw [if_neg hb, if_neg hb, if_neg hb]
theorem uph_self {h : AH} {a : Nat} {e : AE} (he : h a = some e) : uph h a e = h := by
  funext b
  unfold uph
  by_cases hb : b = a
  · rw [if_pos hb, hb, he]
  · rw [if_neg hb]
/-- locals, fewer or in another order -/
def allk (lv : LV) : LV → Prop
  | [] => True
  | q :: r => lk lv q.1 = some q.2 ∧ allk lv r
theorem allk_mem {lv : LV} : ∀ {lv' : LV}, allk lv lv' → ∀ q ∈ lv', q ∈ lv
  | [], _, q, h => by cases h
  | x :: r, hk, q, h => by
    rcases List.mem_cons.mp h with rfl | h
    · exact lk_mem hk.1
    · exact allk_mem hk.2 q h
theorem go_loc {l : Launch} {G : GG} {own : Nat} {g : SG} {mc ms : Nat} {Post : Option Value → AH → Nat → Prop} {pc : Nat} {lv lv' : LV} {st : List Value} {h : AH} {nx k n : Nat} (hk : allk lv lv') (hg : Go l G own g mc ms Post pc lv' st h nx k n) : Go l G own g mc ms Post pc lv st h nx k n :=
  fun p e R s m args below meth c C H locs ls hR hS hl hk1 hn => hg p e R s m args below meth c C H locs ls hR hS (lv_mono hl (allk_mem hk)) hk1 hn
