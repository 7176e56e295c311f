/-- the law's start, as the abstract machine has it  -/
theorem law_G {p : Program} {s : State} {m : MethodId} {meth : Method} {c : Code} {b L : Nat} {xs : Nat → Int32} (l : Launch) (C0 : lw_At p s m meth c b L xs) : ∃ G : GG, G.2.2.1 = (fun q => s.heap.size ≤ q) ∧ (XC G ∧ TX l G) ∧ Cx G p room_1 s m #[Value.ref b] meth c 13 s_law 330716 8110100 := by
  obtain ⟨hx, hb, hr, hml, hown, hts, hXs, hbl, hlocks, hgv⟩ := C0
  obtain ⟨D, t, hK, hN⟩ := law_K hts
  obtain ⟨ad, adV, hS⟩ := law_X (A := fun q => s.heap.size ≤ q) hgv hts (fun a h1 h2 => absurd h1 (Nat.not_lt.mpr h2))
  exact ⟨(D, t, fun q => s.heap.size ≤ q, XS (fun q => s.heap.size ≤ q) ad adV, ad), rfl, ⟨XS_XC, XS_TX (adV := adV) XS_XC (fun s hs => hs)⟩, hx, hb, hml, hr, hown, fun w hw => hts w (TB_lw w hw), hlocks, fun z => absurd z (by decide +kernel), ⟨by decide, by decide, Nat.le_refl _, Nat.le_refl _⟩, hK, hN, fun q h => h, hS, XS_XC⟩
