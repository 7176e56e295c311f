theorem Runs.of' {l : Launch} {G : GG} {own b mc ms : Nat} {g : SG} {As : List Value} {h : AH} {nx : Nat} {Post : Option Value → AH → Nat → Prop} {es : List CE} (hg : sg b = g) (hck : CK own g es = true) (hown : g.1.cls = RN own) (hpl : plainName g.1.cls = true) (hX : XC G ∧ TX l G) (stops : List Nat) (f : Nat) (hlen : Nat.ble (lg_sl As).length g.2.2.1 = true) (hr : run l G own g es mc ms Post stops f 0 (lv_args 0 As) [] h nx 0 0) : Runs l G b mc ms As h nx Post := by
  subst hg
  exact Runs.of hX.1 hown hpl (Nat.le_of_ble_eq_true hlen) (Go.of hX.2 hck stops f hr)
theorem pl_RJ13 : plainName RJ13 = true := by decide +kernel
theorem pl_RJ6 : plainName RJ6 = true := by decide +kernel
theorem pl_RJ7 : plainName RJ7 = true := by decide +kernel
theorem pl_RX0 : plainName RX0 = true := by decide +kernel
theorem pl_RX1 : plainName RX1 = true := by decide +kernel
theorem pl_RX10 : plainName RX10 = true := by decide +kernel
theorem pl_RX11 : plainName RX11 = true := by decide +kernel
theorem pl_RX12 : plainName RX12 = true := by decide +kernel
theorem pl_RX2 : plainName RX2 = true := by decide +kernel
theorem pl_RX3 : plainName RX3 = true := by decide +kernel
theorem pl_RX4 : plainName RX4 = true := by decide +kernel
theorem pl_RX5 : plainName RX5 = true := by decide +kernel
theorem pl_RX6 : plainName RX6 = true := by decide +kernel
theorem pl_RX7 : plainName RX7 = true := by decide +kernel
theorem pl_RX8 : plainName RX8 = true := by decide +kernel
theorem pl_RX9 : plainName RX9 = true := by decide +kernel
abbrev i_X0_init : Nat := 0
theorem sg_X0_init : sg i_X0_init = s_X0_init := rfl
theorem en_X0_init {l : Launch} {G : GG} {mc ms : Nat} {As : List Value} {h : AH} {nx : Nat} {Post : Option Value → AH → Nat → Prop} (hX : XC G ∧ TX l G) (stops : List Nat) (f : Nat) (hlen : Nat.ble (lg_sl As).length 3 = true) (hr : run l G 0 s_X0_init e_X0_init mc ms Post stops f 0 (lv_args 0 As) [] h nx 0 0) : Runs l G i_X0_init mc ms As h nx Post := Runs.of' sg_X0_init ck_X0_init rfl pl_RX0 hX stops f hlen hr
abbrev i_X0_addTold : Nat := 1
theorem sg_X0_addTold : sg i_X0_addTold = s_X0_addTold := rfl
theorem en_X0_addTold {l : Launch} {G : GG} {mc ms : Nat} {As : List Value} {h : AH} {nx : Nat} {Post : Option Value → AH → Nat → Prop} (hX : XC G ∧ TX l G) (stops : List Nat) (f : Nat) (hlen : Nat.ble (lg_sl As).length 6 = true) (hr : run l G 0 s_X0_addTold e_X0_addTold mc ms Post stops f 0 (lv_args 0 As) [] h nx 0 0) : Runs l G i_X0_addTold mc ms As h nx Post := Runs.of' sg_X0_addTold ck_X0_addTold rfl pl_RX0 hX stops f hlen hr
abbrev i_X0_setSlow : Nat := 2
theorem sg_X0_setSlow : sg i_X0_setSlow = s_X0_setSlow := rfl
theorem en_X0_setSlow {l : Launch} {G : GG} {mc ms : Nat} {As : List Value} {h : AH} {nx : Nat} {Post : Option Value → AH → Nat → Prop} (hX : XC G ∧ TX l G) (stops : List Nat) (f : Nat) (hlen : Nat.ble (lg_sl As).length 3 = true) (hr : run l G 0 s_X0_setSlow e_X0_setSlow mc ms Post stops f 0 (lv_args 0 As) [] h nx 0 0) : Runs l G i_X0_setSlow mc ms As h nx Post := Runs.of' sg_X0_setSlow ck_X0_setSlow rfl pl_RX0 hX stops f hlen hr
abbrev i_X0_slowOf : Nat := 3
theorem sg_X0_slowOf : sg i_X0_slowOf = s_X0_slowOf := rfl
theorem en_X0_slowOf {l : Launch} {G : GG} {mc ms : Nat} {As : List Value} {h : AH} {nx : Nat} {Post : Option Value → AH → Nat → Prop} (hX : XC G ∧ TX l G) (stops : List Nat) (f : Nat) (hlen : Nat.ble (lg_sl As).length 2 = true) (hr : run l G 0 s_X0_slowOf e_X0_slowOf mc ms Post stops f 0 (lv_args 0 As) [] h nx 0 0) : Runs l G i_X0_slowOf mc ms As h nx Post := Runs.of' sg_X0_slowOf ck_X0_slowOf rfl pl_RX0 hX stops f hlen hr
abbrev i_X0_trackBits : Nat := 4
theorem sg_X0_trackBits : sg i_X0_trackBits = s_X0_trackBits := rfl
theorem en_X0_trackBits {l : Launch} {G : GG} {mc ms : Nat} {As : List Value} {h : AH} {nx : Nat} {Post : Option Value → AH → Nat → Prop} (hX : XC G ∧ TX l G) (stops : List Nat) (f : Nat) (hlen : Nat.ble (lg_sl As).length 3 = true) (hr : run l G 0 s_X0_trackBits e_X0_trackBits mc ms Post stops f 0 (lv_args 0 As) [] h nx 0 0) : Runs l G i_X0_trackBits mc ms As h nx Post := Runs.of' sg_X0_trackBits ck_X0_trackBits rfl pl_RX0 hX stops f hlen hr
abbrev i_X0_addCircuit : Nat := 5
theorem sg_X0_addCircuit : sg i_X0_addCircuit = s_X0_addCircuit := rfl
theorem en_X0_addCircuit {l : Launch} {G : GG} {mc ms : Nat} {As : List Value} {h : AH} {nx : Nat} {Post : Option Value → AH → Nat → Prop} (hX : XC G ∧ TX l G) (stops : List Nat) (f : Nat) (hlen : Nat.ble (lg_sl As).length 7 = true) (hr : run l G 0 s_X0_addCircuit e_X0_addCircuit mc ms Post stops f 0 (lv_args 0 As) [] h nx 0 0) : Runs l G i_X0_addCircuit mc ms As h nx Post := Runs.of' sg_X0_addCircuit ck_X0_addCircuit rfl pl_RX0 hX stops f hlen hr
abbrev i_X0_complete : Nat := 6
theorem sg_X0_complete : sg i_X0_complete = s_X0_complete := rfl
theorem en_X0_complete {l : Launch} {G : GG} {mc ms : Nat} {As : List Value} {h : AH} {nx : Nat} {Post : Option Value → AH → Nat → Prop} (hX : XC G ∧ TX l G) (stops : List Nat) (f : Nat) (hlen : Nat.ble (lg_sl As).length 2 = true) (hr : run l G 0 s_X0_complete e_X0_complete mc ms Post stops f 0 (lv_args 0 As) [] h nx 0 0) : Runs l G i_X0_complete mc ms As h nx Post := Runs.of' sg_X0_complete ck_X0_complete rfl pl_RX0 hX stops f hlen hr
abbrev i_X0_addFlaw : Nat := 7
theorem sg_X0_addFlaw : sg i_X0_addFlaw = s_X0_addFlaw := rfl
theorem en_X0_addFlaw {l : Launch} {G : GG} {mc ms : Nat} {As : List Value} {h : AH} {nx : Nat} {Post : Option Value → AH → Nat → Prop} (hX : XC G ∧ TX l G) (stops : List Nat) (f : Nat) (hlen : Nat.ble (lg_sl As).length 2 = true) (hr : run l G 0 s_X0_addFlaw e_X0_addFlaw mc ms Post stops f 0 (lv_args 0 As) [] h nx 0 0) : Runs l G i_X0_addFlaw mc ms As h nx Post := Runs.of' sg_X0_addFlaw ck_X0_addFlaw rfl pl_RX0 hX stops f hlen hr
abbrev i_X0_addNever : Nat := 8
theorem sg_X0_addNever : sg i_X0_addNever = s_X0_addNever := rfl
theorem en_X0_addNever {l : Launch} {G : GG} {mc ms : Nat} {As : List Value} {h : AH} {nx : Nat} {Post : Option Value → AH → Nat → Prop} (hX : XC G ∧ TX l G) (stops : List Nat) (f : Nat) (hlen : Nat.ble (lg_sl As).length 4 = true) (hr : run l G 0 s_X0_addNever e_X0_addNever mc ms Post stops f 0 (lv_args 0 As) [] h nx 0 0) : Runs l G i_X0_addNever mc ms As h nx Post := Runs.of' sg_X0_addNever ck_X0_addNever rfl pl_RX0 hX stops f hlen hr
abbrev i_X0_soundCircuits : Nat := 9
theorem sg_X0_soundCircuits : sg i_X0_soundCircuits = s_X0_soundCircuits := rfl
theorem en_X0_soundCircuits {l : Launch} {G : GG} {mc ms : Nat} {As : List Value} {h : AH} {nx : Nat} {Post : Option Value → AH → Nat → Prop} (hX : XC G ∧ TX l G) (stops : List Nat) (f : Nat) (hlen : Nat.ble (lg_sl As).length 2 = true) (hr : run l G 0 s_X0_soundCircuits e_X0_soundCircuits mc ms Post stops f 0 (lv_args 0 As) [] h nx 0 0) : Runs l G i_X0_soundCircuits mc ms As h nx Post := Runs.of' sg_X0_soundCircuits ck_X0_soundCircuits rfl pl_RX0 hX stops f hlen hr
abbrev i_X0_circuitBits : Nat := 10
theorem sg_X0_circuitBits : sg i_X0_circuitBits = s_X0_circuitBits := rfl
theorem en_X0_circuitBits {l : Launch} {G : GG} {mc ms : Nat} {As : List Value} {h : AH} {nx : Nat} {Post : Option Value → AH → Nat → Prop} (hX : XC G ∧ TX l G) (stops : List Nat) (f : Nat) (hlen : Nat.ble (lg_sl As).length 1 = true) (hr : run l G 0 s_X0_circuitBits e_X0_circuitBits mc ms Post stops f 0 (lv_args 0 As) [] h nx 0 0) : Runs l G i_X0_circuitBits mc ms As h nx Post := Runs.of' sg_X0_circuitBits ck_X0_circuitBits rfl pl_RX0 hX stops f hlen hr
abbrev i_X0_forbiddenAt : Nat := 11
theorem sg_X0_forbiddenAt : sg i_X0_forbiddenAt = s_X0_forbiddenAt := rfl
theorem en_X0_forbiddenAt {l : Launch} {G : GG} {mc ms : Nat} {As : List Value} {h : AH} {nx : Nat} {Post : Option Value → AH → Nat → Prop} (hX : XC G ∧ TX l G) (stops : List Nat) (f : Nat) (hlen : Nat.ble (lg_sl As).length 2 = true) (hr : run l G 0 s_X0_forbiddenAt e_X0_forbiddenAt mc ms Post stops f 0 (lv_args 0 As) [] h nx 0 0) : Runs l G i_X0_forbiddenAt mc ms As h nx Post := Runs.of' sg_X0_forbiddenAt ck_X0_forbiddenAt rfl pl_RX0 hX stops f hlen hr
abbrev i_X0_flawIndex : Nat := 12
theorem sg_X0_flawIndex : sg i_X0_flawIndex = s_X0_flawIndex := rfl
theorem en_X0_flawIndex {l : Launch} {G : GG} {mc ms : Nat} {As : List Value} {h : AH} {nx : Nat} {Post : Option Value → AH → Nat → Prop} (hX : XC G ∧ TX l G) (stops : List Nat) (f : Nat) (hlen : Nat.ble (lg_sl As).length 3 = true) (hr : run l G 0 s_X0_flawIndex e_X0_flawIndex mc ms Post stops f 0 (lv_args 0 As) [] h nx 0 0) : Runs l G i_X0_flawIndex mc ms As h nx Post := Runs.of' sg_X0_flawIndex ck_X0_flawIndex rfl pl_RX0 hX stops f hlen hr
abbrev i_X0_flawAt : Nat := 13
theorem sg_X0_flawAt : sg i_X0_flawAt = s_X0_flawAt := rfl
theorem en_X0_flawAt {l : Launch} {G : GG} {mc ms : Nat} {As : List Value} {h : AH} {nx : Nat} {Post : Option Value → AH → Nat → Prop} (hX : XC G ∧ TX l G) (stops : List Nat) (f : Nat) (hlen : Nat.ble (lg_sl As).length 2 = true) (hr : run l G 0 s_X0_flawAt e_X0_flawAt mc ms Post stops f 0 (lv_args 0 As) [] h nx 0 0) : Runs l G i_X0_flawAt mc ms As h nx Post := Runs.of' sg_X0_flawAt ck_X0_flawAt rfl pl_RX0 hX stops f hlen hr
abbrev i_X0_isFlawOrNone : Nat := 14
theorem sg_X0_isFlawOrNone : sg i_X0_isFlawOrNone = s_X0_isFlawOrNone := rfl
theorem en_X0_isFlawOrNone {l : Launch} {G : GG} {mc ms : Nat} {As : List Value} {h : AH} {nx : Nat} {Post : Option Value → AH → Nat → Prop} (hX : XC G ∧ TX l G) (stops : List Nat) (f : Nat) (hlen : Nat.ble (lg_sl As).length 2 = true) (hr : run l G 0 s_X0_isFlawOrNone e_X0_isFlawOrNone mc ms Post stops f 0 (lv_args 0 As) [] h nx 0 0) : Runs l G i_X0_isFlawOrNone mc ms As h nx Post := Runs.of' sg_X0_isFlawOrNone ck_X0_isFlawOrNone rfl pl_RX0 hX stops f hlen hr
abbrev i_X0_unlikeBits : Nat := 15
theorem sg_X0_unlikeBits : sg i_X0_unlikeBits = s_X0_unlikeBits := rfl
theorem en_X0_unlikeBits {l : Launch} {G : GG} {mc ms : Nat} {As : List Value} {h : AH} {nx : Nat} {Post : Option Value → AH → Nat → Prop} (hX : XC G ∧ TX l G) (stops : List Nat) (f : Nat) (hlen : Nat.ble (lg_sl As).length 4 = true) (hr : run l G 0 s_X0_unlikeBits e_X0_unlikeBits mc ms Post stops f 0 (lv_args 0 As) [] h nx 0 0) : Runs l G i_X0_unlikeBits mc ms As h nx Post := Runs.of' sg_X0_unlikeBits ck_X0_unlikeBits rfl pl_RX0 hX stops f hlen hr
abbrev i_X0_hasSameCircuit : Nat := 16
theorem sg_X0_hasSameCircuit : sg i_X0_hasSameCircuit = s_X0_hasSameCircuit := rfl
theorem en_X0_hasSameCircuit {l : Launch} {G : GG} {mc ms : Nat} {As : List Value} {h : AH} {nx : Nat} {Post : Option Value → AH → Nat → Prop} (hX : XC G ∧ TX l G) (stops : List Nat) (f : Nat) (hlen : Nat.ble (lg_sl As).length 7 = true) (hr : run l G 0 s_X0_hasSameCircuit e_X0_hasSameCircuit mc ms Post stops f 0 (lv_args 0 As) [] h nx 0 0) : Runs l G i_X0_hasSameCircuit mc ms As h nx Post := Runs.of' sg_X0_hasSameCircuit ck_X0_hasSameCircuit rfl pl_RX0 hX stops f hlen hr
abbrev i_X0_countOf : Nat := 17
theorem sg_X0_countOf : sg i_X0_countOf = s_X0_countOf := rfl
theorem en_X0_countOf {l : Launch} {G : GG} {mc ms : Nat} {As : List Value} {h : AH} {nx : Nat} {Post : Option Value → AH → Nat → Prop} (hX : XC G ∧ TX l G) (stops : List Nat) (f : Nat) (hlen : Nat.ble (lg_sl As).length 2 = true) (hr : run l G 0 s_X0_countOf e_X0_countOf mc ms Post stops f 0 (lv_args 0 As) [] h nx 0 0) : Runs l G i_X0_countOf mc ms As h nx Post := Runs.of' sg_X0_countOf ck_X0_countOf rfl pl_RX0 hX stops f hlen hr
abbrev i_X1_init : Nat := 18
theorem sg_X1_init : sg i_X1_init = s_X1_init := rfl
theorem en_X1_init {l : Launch} {G : GG} {mc ms : Nat} {As : List Value} {h : AH} {nx : Nat} {Post : Option Value → AH → Nat → Prop} (hX : XC G ∧ TX l G) (stops : List Nat) (f : Nat) (hlen : Nat.ble (lg_sl As).length 1 = true) (hr : run l G 1 s_X1_init e_X1_init mc ms Post stops f 0 (lv_args 0 As) [] h nx 0 0) : Runs l G i_X1_init mc ms As h nx Post := Runs.of' sg_X1_init ck_X1_init rfl pl_RX1 hX stops f hlen hr
abbrev i_X1_arePartners : Nat := 19
theorem sg_X1_arePartners : sg i_X1_arePartners = s_X1_arePartners := rfl
theorem en_X1_arePartners {l : Launch} {G : GG} {mc ms : Nat} {As : List Value} {h : AH} {nx : Nat} {Post : Option Value → AH → Nat → Prop} (hX : XC G ∧ TX l G) (stops : List Nat) (f : Nat) (hlen : Nat.ble (lg_sl As).length 4 = true) (hr : run l G 1 s_X1_arePartners e_X1_arePartners mc ms Post stops f 0 (lv_args 0 As) [] h nx 0 0) : Runs l G i_X1_arePartners mc ms As h nx Post := Runs.of' sg_X1_arePartners ck_X1_arePartners rfl pl_RX1 hX stops f hlen hr
abbrev i_X1_addPartner : Nat := 20
theorem sg_X1_addPartner : sg i_X1_addPartner = s_X1_addPartner := rfl
theorem en_X1_addPartner {l : Launch} {G : GG} {mc ms : Nat} {As : List Value} {h : AH} {nx : Nat} {Post : Option Value → AH → Nat → Prop} (hX : XC G ∧ TX l G) (stops : List Nat) (f : Nat) (hlen : Nat.ble (lg_sl As).length 4 = true) (hr : run l G 1 s_X1_addPartner e_X1_addPartner mc ms Post stops f 0 (lv_args 0 As) [] h nx 0 0) : Runs l G i_X1_addPartner mc ms As h nx Post := Runs.of' sg_X1_addPartner ck_X1_addPartner rfl pl_RX1 hX stops f hlen hr
abbrev i_X1_countPartners : Nat := 21
theorem sg_X1_countPartners : sg i_X1_countPartners = s_X1_countPartners := rfl
theorem en_X1_countPartners {l : Launch} {G : GG} {mc ms : Nat} {As : List Value} {h : AH} {nx : Nat} {Post : Option Value → AH → Nat → Prop} (hX : XC G ∧ TX l G) (stops : List Nat) (f : Nat) (hlen : Nat.ble (lg_sl As).length 4 = true) (hr : run l G 1 s_X1_countPartners e_X1_countPartners mc ms Post stops f 0 (lv_args 0 As) [] h nx 0 0) : Runs l G i_X1_countPartners mc ms As h nx Post := Runs.of' sg_X1_countPartners ck_X1_countPartners rfl pl_RX1 hX stops f hlen hr
abbrev i_X1_partnerAt : Nat := 22
theorem sg_X1_partnerAt : sg i_X1_partnerAt = s_X1_partnerAt := rfl
theorem en_X1_partnerAt {l : Launch} {G : GG} {mc ms : Nat} {As : List Value} {h : AH} {nx : Nat} {Post : Option Value → AH → Nat → Prop} (hX : XC G ∧ TX l G) (stops : List Nat) (f : Nat) (hlen : Nat.ble (lg_sl As).length 5 = true) (hr : run l G 1 s_X1_partnerAt e_X1_partnerAt mc ms Post stops f 0 (lv_args 0 As) [] h nx 0 0) : Runs l G i_X1_partnerAt mc ms As h nx Post := Runs.of' sg_X1_partnerAt ck_X1_partnerAt rfl pl_RX1 hX stops f hlen hr
abbrev i_X1_suiteTest : Nat := 23
theorem sg_X1_suiteTest : sg i_X1_suiteTest = s_X1_suiteTest := rfl
theorem en_X1_suiteTest {l : Launch} {G : GG} {mc ms : Nat} {As : List Value} {h : AH} {nx : Nat} {Post : Option Value → AH → Nat → Prop} (hX : XC G ∧ TX l G) (stops : List Nat) (f : Nat) (hlen : Nat.ble (lg_sl As).length 2 = true) (hr : run l G 1 s_X1_suiteTest e_X1_suiteTest mc ms Post stops f 0 (lv_args 0 As) [] h nx 0 0) : Runs l G i_X1_suiteTest mc ms As h nx Post := Runs.of' sg_X1_suiteTest ck_X1_suiteTest rfl pl_RX1 hX stops f hlen hr
abbrev i_X2_init : Nat := 24
theorem sg_X2_init : sg i_X2_init = s_X2_init := rfl
theorem en_X2_init {l : Launch} {G : GG} {mc ms : Nat} {As : List Value} {h : AH} {nx : Nat} {Post : Option Value → AH → Nat → Prop} (hX : XC G ∧ TX l G) (stops : List Nat) (f : Nat) (hlen : Nat.ble (lg_sl As).length 2 = true) (hr : run l G 2 s_X2_init e_X2_init mc ms Post stops f 0 (lv_args 0 As) [] h nx 0 0) : Runs l G i_X2_init mc ms As h nx Post := Runs.of' sg_X2_init ck_X2_init rfl pl_RX2 hX stops f hlen hr
abbrev i_X2_takeDrawing : Nat := 25
theorem sg_X2_takeDrawing : sg i_X2_takeDrawing = s_X2_takeDrawing := rfl
theorem en_X2_takeDrawing {l : Launch} {G : GG} {mc ms : Nat} {As : List Value} {h : AH} {nx : Nat} {Post : Option Value → AH → Nat → Prop} (hX : XC G ∧ TX l G) (stops : List Nat) (f : Nat) (hlen : Nat.ble (lg_sl As).length 2 = true) (hr : run l G 2 s_X2_takeDrawing e_X2_takeDrawing mc ms Post stops f 0 (lv_args 0 As) [] h nx 0 0) : Runs l G i_X2_takeDrawing mc ms As h nx Post := Runs.of' sg_X2_takeDrawing ck_X2_takeDrawing rfl pl_RX2 hX stops f hlen hr
abbrev i_X2_hasClashed : Nat := 26
theorem sg_X2_hasClashed : sg i_X2_hasClashed = s_X2_hasClashed := rfl
theorem en_X2_hasClashed {l : Launch} {G : GG} {mc ms : Nat} {As : List Value} {h : AH} {nx : Nat} {Post : Option Value → AH → Nat → Prop} (hX : XC G ∧ TX l G) (stops : List Nat) (f : Nat) (hlen : Nat.ble (lg_sl As).length 1 = true) (hr : run l G 2 s_X2_hasClashed e_X2_hasClashed mc ms Post stops f 0 (lv_args 0 As) [] h nx 0 0) : Runs l G i_X2_hasClashed mc ms As h nx Post := Runs.of' sg_X2_hasClashed ck_X2_hasClashed rfl pl_RX2 hX stops f hlen hr
abbrev i_X2_setInput : Nat := 27
theorem sg_X2_setInput : sg i_X2_setInput = s_X2_setInput := rfl
theorem en_X2_setInput {l : Launch} {G : GG} {mc ms : Nat} {As : List Value} {h : AH} {nx : Nat} {Post : Option Value → AH → Nat → Prop} (hX : XC G ∧ TX l G) (stops : List Nat) (f : Nat) (hlen : Nat.ble (lg_sl As).length 3 = true) (hr : run l G 2 s_X2_setInput e_X2_setInput mc ms Post stops f 0 (lv_args 0 As) [] h nx 0 0) : Runs l G i_X2_setInput mc ms As h nx Post := Runs.of' sg_X2_setInput ck_X2_setInput rfl pl_RX2 hX stops f hlen hr
abbrev i_X2_layStrap : Nat := 28
theorem sg_X2_layStrap : sg i_X2_layStrap = s_X2_layStrap := rfl
theorem en_X2_layStrap {l : Launch} {G : GG} {mc ms : Nat} {As : List Value} {h : AH} {nx : Nat} {Post : Option Value → AH → Nat → Prop} (hX : XC G ∧ TX l G) (stops : List Nat) (f : Nat) (hlen : Nat.ble (lg_sl As).length 3 = true) (hr : run l G 2 s_X2_layStrap e_X2_layStrap mc ms Post stops f 0 (lv_args 0 As) [] h nx 0 0) : Runs l G i_X2_layStrap mc ms As h nx Post := Runs.of' sg_X2_layStrap ck_X2_layStrap rfl pl_RX2 hX stops f hlen hr
abbrev i_X2_setAge : Nat := 29
theorem sg_X2_setAge : sg i_X2_setAge = s_X2_setAge := rfl
theorem en_X2_setAge {l : Launch} {G : GG} {mc ms : Nat} {As : List Value} {h : AH} {nx : Nat} {Post : Option Value → AH → Nat → Prop} (hX : XC G ∧ TX l G) (stops : List Nat) (f : Nat) (hlen : Nat.ble (lg_sl As).length 3 = true) (hr : run l G 2 s_X2_setAge e_X2_setAge mc ms Post stops f 0 (lv_args 0 As) [] h nx 0 0) : Runs l G i_X2_setAge mc ms As h nx Post := Runs.of' sg_X2_setAge ck_X2_setAge rfl pl_RX2 hX stops f hlen hr
abbrev i_X2_circuitsNow : Nat := 30
theorem sg_X2_circuitsNow : sg i_X2_circuitsNow = s_X2_circuitsNow := rfl
theorem en_X2_circuitsNow {l : Launch} {G : GG} {mc ms : Nat} {As : List Value} {h : AH} {nx : Nat} {Post : Option Value → AH → Nat → Prop} (hX : XC G ∧ TX l G) (stops : List Nat) (f : Nat) (hlen : Nat.ble (lg_sl As).length 3 = true) (hr : run l G 2 s_X2_circuitsNow e_X2_circuitsNow mc ms Post stops f 0 (lv_args 0 As) [] h nx 0 0) : Runs l G i_X2_circuitsNow mc ms As h nx Post := Runs.of' sg_X2_circuitsNow ck_X2_circuitsNow rfl pl_RX2 hX stops f hlen hr
abbrev i_X2_goRound : Nat := 31
theorem sg_X2_goRound : sg i_X2_goRound = s_X2_goRound := rfl
theorem en_X2_goRound {l : Launch} {G : GG} {mc ms : Nat} {As : List Value} {h : AH} {nx : Nat} {Post : Option Value → AH → Nat → Prop} (hX : XC G ∧ TX l G) (stops : List Nat) (f : Nat) (hlen : Nat.ble (lg_sl As).length 5 = true) (hr : run l G 2 s_X2_goRound e_X2_goRound mc ms Post stops f 0 (lv_args 0 As) [] h nx 0 0) : Runs l G i_X2_goRound mc ms As h nx Post := Runs.of' sg_X2_goRound ck_X2_goRound rfl pl_RX2 hX stops f hlen hr
abbrev i_X2_isClash : Nat := 32
theorem sg_X2_isClash : sg i_X2_isClash = s_X2_isClash := rfl
theorem en_X2_isClash {l : Launch} {G : GG} {mc ms : Nat} {As : List Value} {h : AH} {nx : Nat} {Post : Option Value → AH → Nat → Prop} (hX : XC G ∧ TX l G) (stops : List Nat) (f : Nat) (hlen : Nat.ble (lg_sl As).length 6 = true) (hr : run l G 2 s_X2_isClash e_X2_isClash mc ms Post stops f 0 (lv_args 0 As) [] h nx 0 0) : Runs l G i_X2_isClash mc ms As h nx Post := Runs.of' sg_X2_isClash ck_X2_isClash rfl pl_RX2 hX stops f hlen hr
abbrev i_X2_tell : Nat := 33
theorem sg_X2_tell : sg i_X2_tell = s_X2_tell := rfl
theorem en_X2_tell {l : Launch} {G : GG} {mc ms : Nat} {As : List Value} {h : AH} {nx : Nat} {Post : Option Value → AH → Nat → Prop} (hX : XC G ∧ TX l G) (stops : List Nat) (f : Nat) (hlen : Nat.ble (lg_sl As).length 3 = true) (hr : run l G 2 s_X2_tell e_X2_tell mc ms Post stops f 0 (lv_args 0 As) [] h nx 0 0) : Runs l G i_X2_tell mc ms As h nx Post := Runs.of' sg_X2_tell ck_X2_tell rfl pl_RX2 hX stops f hlen hr
abbrev i_X3_init : Nat := 34
theorem sg_X3_init : sg i_X3_init = s_X3_init := rfl
theorem en_X3_init {l : Launch} {G : GG} {mc ms : Nat} {As : List Value} {h : AH} {nx : Nat} {Post : Option Value → AH → Nat → Prop} (hX : XC G ∧ TX l G) (stops : List Nat) (f : Nat) (hlen : Nat.ble (lg_sl As).length 2 = true) (hr : run l G 3 s_X3_init e_X3_init mc ms Post stops f 0 (lv_args 0 As) [] h nx 0 0) : Runs l G i_X3_init mc ms As h nx Post := Runs.of' sg_X3_init ck_X3_init rfl pl_RX3 hX stops f hlen hr
abbrev i_X3_inputCount : Nat := 35
theorem sg_X3_inputCount : sg i_X3_inputCount = s_X3_inputCount := rfl
theorem en_X3_inputCount {l : Launch} {G : GG} {mc ms : Nat} {As : List Value} {h : AH} {nx : Nat} {Post : Option Value → AH → Nat → Prop} (hX : XC G ∧ TX l G) (stops : List Nat) (f : Nat) (hlen : Nat.ble (lg_sl As).length 1 = true) (hr : run l G 3 s_X3_inputCount e_X3_inputCount mc ms Post stops f 0 (lv_args 0 As) [] h nx 0 0) : Runs l G i_X3_inputCount mc ms As h nx Post := Runs.of' sg_X3_inputCount ck_X3_inputCount rfl pl_RX3 hX stops f hlen hr
abbrev i_X3_prepare : Nat := 36
theorem sg_X3_prepare : sg i_X3_prepare = s_X3_prepare := rfl
theorem en_X3_prepare {l : Launch} {G : GG} {mc ms : Nat} {As : List Value} {h : AH} {nx : Nat} {Post : Option Value → AH → Nat → Prop} (hX : XC G ∧ TX l G) (stops : List Nat) (f : Nat) (hlen : Nat.ble (lg_sl As).length 4 = true) (hr : run l G 3 s_X3_prepare e_X3_prepare mc ms Post stops f 0 (lv_args 0 As) [] h nx 0 0) : Runs l G i_X3_prepare mc ms As h nx Post := Runs.of' sg_X3_prepare ck_X3_prepare rfl pl_RX3 hX stops f hlen hr
abbrev i_X3_prepareMixed : Nat := 37
theorem sg_X3_prepareMixed : sg i_X3_prepareMixed = s_X3_prepareMixed := rfl
theorem en_X3_prepareMixed {l : Launch} {G : GG} {mc ms : Nat} {As : List Value} {h : AH} {nx : Nat} {Post : Option Value → AH → Nat → Prop} (hX : XC G ∧ TX l G) (stops : List Nat) (f : Nat) (hlen : Nat.ble (lg_sl As).length 6 = true) (hr : run l G 3 s_X3_prepareMixed e_X3_prepareMixed mc ms Post stops f 0 (lv_args 0 As) [] h nx 0 0) : Runs l G i_X3_prepareMixed mc ms As h nx Post := Runs.of' sg_X3_prepareMixed ck_X3_prepareMixed rfl pl_RX3 hX stops f hlen hr
abbrev i_X3_harm : Nat := 38
theorem sg_X3_harm : sg i_X3_harm = s_X3_harm := rfl
theorem en_X3_harm {l : Launch} {G : GG} {mc ms : Nat} {As : List Value} {h : AH} {nx : Nat} {Post : Option Value → AH → Nat → Prop} (hX : XC G ∧ TX l G) (stops : List Nat) (f : Nat) (hlen : Nat.ble (lg_sl As).length 4 = true) (hr : run l G 3 s_X3_harm e_X3_harm mc ms Post stops f 0 (lv_args 0 As) [] h nx 0 0) : Runs l G i_X3_harm mc ms As h nx Post := Runs.of' sg_X3_harm ck_X3_harm rfl pl_RX3 hX stops f hlen hr
abbrev i_X3_circuitsAt : Nat := 39
theorem sg_X3_circuitsAt : sg i_X3_circuitsAt = s_X3_circuitsAt := rfl
theorem en_X3_circuitsAt {l : Launch} {G : GG} {mc ms : Nat} {As : List Value} {h : AH} {nx : Nat} {Post : Option Value → AH → Nat → Prop} (hX : XC G ∧ TX l G) (stops : List Nat) (f : Nat) (hlen : Nat.ble (lg_sl As).length 7 = true) (hr : run l G 3 s_X3_circuitsAt e_X3_circuitsAt mc ms Post stops f 0 (lv_args 0 As) [] h nx 0 0) : Runs l G i_X3_circuitsAt mc ms As h nx Post := Runs.of' sg_X3_circuitsAt ck_X3_circuitsAt rfl pl_RX3 hX stops f hlen hr
abbrev i_X3_lampsAt : Nat := 40
theorem sg_X3_lampsAt : sg i_X3_lampsAt = s_X3_lampsAt := rfl
theorem en_X3_lampsAt {l : Launch} {G : GG} {mc ms : Nat} {As : List Value} {h : AH} {nx : Nat} {Post : Option Value → AH → Nat → Prop} (hX : XC G ∧ TX l G) (stops : List Nat) (f : Nat) (hlen : Nat.ble (lg_sl As).length 3 = true) (hr : run l G 3 s_X3_lampsAt e_X3_lampsAt mc ms Post stops f 0 (lv_args 0 As) [] h nx 0 0) : Runs l G i_X3_lampsAt mc ms As h nx Post := Runs.of' sg_X3_lampsAt ck_X3_lampsAt rfl pl_RX3 hX stops f hlen hr
abbrev i_X3_isWrong : Nat := 41
theorem sg_X3_isWrong : sg i_X3_isWrong = s_X3_isWrong := rfl
theorem en_X3_isWrong {l : Launch} {G : GG} {mc ms : Nat} {As : List Value} {h : AH} {nx : Nat} {Post : Option Value → AH → Nat → Prop} (hX : XC G ∧ TX l G) (stops : List Nat) (f : Nat) (hlen : Nat.ble (lg_sl As).length 2 = true) (hr : run l G 3 s_X3_isWrong e_X3_isWrong mc ms Post stops f 0 (lv_args 0 As) [] h nx 0 0) : Runs l G i_X3_isWrong mc ms As h nx Post := Runs.of' sg_X3_isWrong ck_X3_isWrong rfl pl_RX3 hX stops f hlen hr
abbrev i_X3_movable : Nat := 42
theorem sg_X3_movable : sg i_X3_movable = s_X3_movable := rfl
theorem en_X3_movable {l : Launch} {G : GG} {mc ms : Nat} {As : List Value} {h : AH} {nx : Nat} {Post : Option Value → AH → Nat → Prop} (hX : XC G ∧ TX l G) (stops : List Nat) (f : Nat) (hlen : Nat.ble (lg_sl As).length 10 = true) (hr : run l G 3 s_X3_movable e_X3_movable mc ms Post stops f 0 (lv_args 0 As) [] h nx 0 0) : Runs l G i_X3_movable mc ms As h nx Post := Runs.of' sg_X3_movable ck_X3_movable rfl pl_RX3 hX stops f hlen hr
abbrev i_X3_settle : Nat := 43
theorem sg_X3_settle : sg i_X3_settle = s_X3_settle := rfl
theorem en_X3_settle {l : Launch} {G : GG} {mc ms : Nat} {As : List Value} {h : AH} {nx : Nat} {Post : Option Value → AH → Nat → Prop} (hX : XC G ∧ TX l G) (stops : List Nat) (f : Nat) (hlen : Nat.ble (lg_sl As).length 9 = true) (hr : run l G 3 s_X3_settle e_X3_settle mc ms Post stops f 0 (lv_args 0 As) [] h nx 0 0) : Runs l G i_X3_settle mc ms As h nx Post := Runs.of' sg_X3_settle ck_X3_settle rfl pl_RX3 hX stops f hlen hr
abbrev i_X3_enter : Nat := 44
theorem sg_X3_enter : sg i_X3_enter = s_X3_enter := rfl
theorem en_X3_enter {l : Launch} {G : GG} {mc ms : Nat} {As : List Value} {h : AH} {nx : Nat} {Post : Option Value → AH → Nat → Prop} (hX : XC G ∧ TX l G) (stops : List Nat) (f : Nat) (hlen : Nat.ble (lg_sl As).length 4 = true) (hr : run l G 3 s_X3_enter e_X3_enter mc ms Post stops f 0 (lv_args 0 As) [] h nx 0 0) : Runs l G i_X3_enter mc ms As h nx Post := Runs.of' sg_X3_enter ck_X3_enter rfl pl_RX3 hX stops f hlen hr
abbrev i_X3_join : Nat := 45
theorem sg_X3_join : sg i_X3_join = s_X3_join := rfl
theorem en_X3_join {l : Launch} {G : GG} {mc ms : Nat} {As : List Value} {h : AH} {nx : Nat} {Post : Option Value → AH → Nat → Prop} (hX : XC G ∧ TX l G) (stops : List Nat) (f : Nat) (hlen : Nat.ble (lg_sl As).length 3 = true) (hr : run l G 3 s_X3_join e_X3_join mc ms Post stops f 0 (lv_args 0 As) [] h nx 0 0) : Runs l G i_X3_join mc ms As h nx Post := Runs.of' sg_X3_join ck_X3_join rfl pl_RX3 hX stops f hlen hr
abbrev i_X4_init : Nat := 46
theorem sg_X4_init : sg i_X4_init = s_X4_init := rfl
theorem en_X4_init {l : Launch} {G : GG} {mc ms : Nat} {As : List Value} {h : AH} {nx : Nat} {Post : Option Value → AH → Nat → Prop} (hX : XC G ∧ TX l G) (stops : List Nat) (f : Nat) (hlen : Nat.ble (lg_sl As).length 2 = true) (hr : run l G 4 s_X4_init e_X4_init mc ms Post stops f 0 (lv_args 0 As) [] h nx 0 0) : Runs l G i_X4_init mc ms As h nx Post := Runs.of' sg_X4_init ck_X4_init rfl pl_RX4 hX stops f hlen hr
abbrev i_X4_entryCount : Nat := 47
theorem sg_X4_entryCount : sg i_X4_entryCount = s_X4_entryCount := rfl
theorem en_X4_entryCount {l : Launch} {G : GG} {mc ms : Nat} {As : List Value} {h : AH} {nx : Nat} {Post : Option Value → AH → Nat → Prop} (hX : XC G ∧ TX l G) (stops : List Nat) (f : Nat) (hlen : Nat.ble (lg_sl As).length 1 = true) (hr : run l G 4 s_X4_entryCount e_X4_entryCount mc ms Post stops f 0 (lv_args 0 As) [] h nx 0 0) : Runs l G i_X4_entryCount mc ms As h nx Post := Runs.of' sg_X4_entryCount ck_X4_entryCount rfl pl_RX4 hX stops f hlen hr
abbrev i_X4_isKnown : Nat := 48
theorem sg_X4_isKnown : sg i_X4_isKnown = s_X4_isKnown := rfl
theorem en_X4_isKnown {l : Launch} {G : GG} {mc ms : Nat} {As : List Value} {h : AH} {nx : Nat} {Post : Option Value → AH → Nat → Prop} (hX : XC G ∧ TX l G) (stops : List Nat) (f : Nat) (hlen : Nat.ble (lg_sl As).length 2 = true) (hr : run l G 4 s_X4_isKnown e_X4_isKnown mc ms Post stops f 0 (lv_args 0 As) [] h nx 0 0) : Runs l G i_X4_isKnown mc ms As h nx Post := Runs.of' sg_X4_isKnown ck_X4_isKnown rfl pl_RX4 hX stops f hlen hr
abbrev i_X4_write : Nat := 49
theorem sg_X4_write : sg i_X4_write = s_X4_write := rfl
theorem en_X4_write {l : Launch} {G : GG} {mc ms : Nat} {As : List Value} {h : AH} {nx : Nat} {Post : Option Value → AH → Nat → Prop} (hX : XC G ∧ TX l G) (stops : List Nat) (f : Nat) (hlen : Nat.ble (lg_sl As).length 6 = true) (hr : run l G 4 s_X4_write e_X4_write mc ms Post stops f 0 (lv_args 0 As) [] h nx 0 0) : Runs l G i_X4_write mc ms As h nx Post := Runs.of' sg_X4_write ck_X4_write rfl pl_RX4 hX stops f hlen hr
abbrev i_X4_areActs : Nat := 50
theorem sg_X4_areActs : sg i_X4_areActs = s_X4_areActs := rfl
theorem en_X4_areActs {l : Launch} {G : GG} {mc ms : Nat} {As : List Value} {h : AH} {nx : Nat} {Post : Option Value → AH → Nat → Prop} (hX : XC G ∧ TX l G) (stops : List Nat) (f : Nat) (hlen : Nat.ble (lg_sl As).length 5 = true) (hr : run l G 4 s_X4_areActs e_X4_areActs mc ms Post stops f 0 (lv_args 0 As) [] h nx 0 0) : Runs l G i_X4_areActs mc ms As h nx Post := Runs.of' sg_X4_areActs ck_X4_areActs rfl pl_RX4 hX stops f hlen hr
abbrev i_X4_addEntry : Nat := 51
theorem sg_X4_addEntry : sg i_X4_addEntry = s_X4_addEntry := rfl
theorem en_X4_addEntry {l : Launch} {G : GG} {mc ms : Nat} {As : List Value} {h : AH} {nx : Nat} {Post : Option Value → AH → Nat → Prop} (hX : XC G ∧ TX l G) (stops : List Nat) (f : Nat) (hlen : Nat.ble (lg_sl As).length 5 = true) (hr : run l G 4 s_X4_addEntry e_X4_addEntry mc ms Post stops f 0 (lv_args 0 As) [] h nx 0 0) : Runs l G i_X4_addEntry mc ms As h nx Post := Runs.of' sg_X4_addEntry ck_X4_addEntry rfl pl_RX4 hX stops f hlen hr
abbrev i_X4_writeVoid : Nat := 52
theorem sg_X4_writeVoid : sg i_X4_writeVoid = s_X4_writeVoid := rfl
theorem en_X4_writeVoid {l : Launch} {G : GG} {mc ms : Nat} {As : List Value} {h : AH} {nx : Nat} {Post : Option Value → AH → Nat → Prop} (hX : XC G ∧ TX l G) (stops : List Nat) (f : Nat) (hlen : Nat.ble (lg_sl As).length 2 = true) (hr : run l G 4 s_X4_writeVoid e_X4_writeVoid mc ms Post stops f 0 (lv_args 0 As) [] h nx 0 0) : Runs l G i_X4_writeVoid mc ms As h nx Post := Runs.of' sg_X4_writeVoid ck_X4_writeVoid rfl pl_RX4 hX stops f hlen hr
abbrev i_X4_isVoid : Nat := 53
theorem sg_X4_isVoid : sg i_X4_isVoid = s_X4_isVoid := rfl
theorem en_X4_isVoid {l : Launch} {G : GG} {mc ms : Nat} {As : List Value} {h : AH} {nx : Nat} {Post : Option Value → AH → Nat → Prop} (hX : XC G ∧ TX l G) (stops : List Nat) (f : Nat) (hlen : Nat.ble (lg_sl As).length 4 = true) (hr : run l G 4 s_X4_isVoid e_X4_isVoid mc ms Post stops f 0 (lv_args 0 As) [] h nx 0 0) : Runs l G i_X4_isVoid mc ms As h nx Post := Runs.of' sg_X4_isVoid ck_X4_isVoid rfl pl_RX4 hX stops f hlen hr
abbrev i_X4_outcome : Nat := 54
theorem sg_X4_outcome : sg i_X4_outcome = s_X4_outcome := rfl
theorem en_X4_outcome {l : Launch} {G : GG} {mc ms : Nat} {As : List Value} {h : AH} {nx : Nat} {Post : Option Value → AH → Nat → Prop} (hX : XC G ∧ TX l G) (stops : List Nat) (f : Nat) (hlen : Nat.ble (lg_sl As).length 8 = true) (hr : run l G 4 s_X4_outcome e_X4_outcome mc ms Post stops f 0 (lv_args 0 As) [] h nx 0 0) : Runs l G i_X4_outcome mc ms As h nx Post := Runs.of' sg_X4_outcome ck_X4_outcome rfl pl_RX4 hX stops f hlen hr
abbrev i_X4_isFitting : Nat := 55
theorem sg_X4_isFitting : sg i_X4_isFitting = s_X4_isFitting := rfl
theorem en_X4_isFitting {l : Launch} {G : GG} {mc ms : Nat} {As : List Value} {h : AH} {nx : Nat} {Post : Option Value → AH → Nat → Prop} (hX : XC G ∧ TX l G) (stops : List Nat) (f : Nat) (hlen : Nat.ble (lg_sl As).length 6 = true) (hr : run l G 4 s_X4_isFitting e_X4_isFitting mc ms Post stops f 0 (lv_args 0 As) [] h nx 0 0) : Runs l G i_X4_isFitting mc ms As h nx Post := Runs.of' sg_X4_isFitting ck_X4_isFitting rfl pl_RX4 hX stops f hlen hr
abbrev i_X4_countFitting : Nat := 56
theorem sg_X4_countFitting : sg i_X4_countFitting = s_X4_countFitting := rfl
theorem en_X4_countFitting {l : Launch} {G : GG} {mc ms : Nat} {As : List Value} {h : AH} {nx : Nat} {Post : Option Value → AH → Nat → Prop} (hX : XC G ∧ TX l G) (stops : List Nat) (f : Nat) (hlen : Nat.ble (lg_sl As).length 5 = true) (hr : run l G 4 s_X4_countFitting e_X4_countFitting mc ms Post stops f 0 (lv_args 0 As) [] h nx 0 0) : Runs l G i_X4_countFitting mc ms As h nx Post := Runs.of' sg_X4_countFitting ck_X4_countFitting rfl pl_RX4 hX stops f hlen hr
abbrev i_X4_bestRow : Nat := 57
theorem sg_X4_bestRow : sg i_X4_bestRow = s_X4_bestRow := rfl
theorem en_X4_bestRow {l : Launch} {G : GG} {mc ms : Nat} {As : List Value} {h : AH} {nx : Nat} {Post : Option Value → AH → Nat → Prop} (hX : XC G ∧ TX l G) (stops : List Nat) (f : Nat) (hlen : Nat.ble (lg_sl As).length 6 = true) (hr : run l G 4 s_X4_bestRow e_X4_bestRow mc ms Post stops f 0 (lv_args 0 As) [] h nx 0 0) : Runs l G i_X4_bestRow mc ms As h nx Post := Runs.of' sg_X4_bestRow ck_X4_bestRow rfl pl_RX4 hX stops f hlen hr
abbrev i_X4_rowCount : Nat := 58
theorem sg_X4_rowCount : sg i_X4_rowCount = s_X4_rowCount := rfl
theorem en_X4_rowCount {l : Launch} {G : GG} {mc ms : Nat} {As : List Value} {h : AH} {nx : Nat} {Post : Option Value → AH → Nat → Prop} (hX : XC G ∧ TX l G) (stops : List Nat) (f : Nat) (hlen : Nat.ble (lg_sl As).length 1 = true) (hr : run l G 4 s_X4_rowCount e_X4_rowCount mc ms Post stops f 0 (lv_args 0 As) [] h nx 0 0) : Runs l G i_X4_rowCount mc ms As h nx Post := Runs.of' sg_X4_rowCount ck_X4_rowCount rfl pl_RX4 hX stops f hlen hr
abbrev i_X4_rowActs : Nat := 59
theorem sg_X4_rowActs : sg i_X4_rowActs = s_X4_rowActs := rfl
theorem en_X4_rowActs {l : Launch} {G : GG} {mc ms : Nat} {As : List Value} {h : AH} {nx : Nat} {Post : Option Value → AH → Nat → Prop} (hX : XC G ∧ TX l G) (stops : List Nat) (f : Nat) (hlen : Nat.ble (lg_sl As).length 2 = true) (hr : run l G 4 s_X4_rowActs e_X4_rowActs mc ms Post stops f 0 (lv_args 0 As) [] h nx 0 0) : Runs l G i_X4_rowActs mc ms As h nx Post := Runs.of' sg_X4_rowActs ck_X4_rowActs rfl pl_RX4 hX stops f hlen hr
abbrev i_X4_isRow : Nat := 60
theorem sg_X4_isRow : sg i_X4_isRow = s_X4_isRow := rfl
theorem en_X4_isRow {l : Launch} {G : GG} {mc ms : Nat} {As : List Value} {h : AH} {nx : Nat} {Post : Option Value → AH → Nat → Prop} (hX : XC G ∧ TX l G) (stops : List Nat) (f : Nat) (hlen : Nat.ble (lg_sl As).length 2 = true) (hr : run l G 4 s_X4_isRow e_X4_isRow mc ms Post stops f 0 (lv_args 0 As) [] h nx 0 0) : Runs l G i_X4_isRow mc ms As h nx Post := Runs.of' sg_X4_isRow ck_X4_isRow rfl pl_RX4 hX stops f hlen hr
abbrev i_X4_addToGroups : Nat := 61
theorem sg_X4_addToGroups : sg i_X4_addToGroups = s_X4_addToGroups := rfl
theorem en_X4_addToGroups {l : Launch} {G : GG} {mc ms : Nat} {As : List Value} {h : AH} {nx : Nat} {Post : Option Value → AH → Nat → Prop} (hX : XC G ∧ TX l G) (stops : List Nat) (f : Nat) (hlen : Nat.ble (lg_sl As).length 4 = true) (hr : run l G 4 s_X4_addToGroups e_X4_addToGroups mc ms Post stops f 0 (lv_args 0 As) [] h nx 0 0) : Runs l G i_X4_addToGroups mc ms As h nx Post := Runs.of' sg_X4_addToGroups ck_X4_addToGroups rfl pl_RX4 hX stops f hlen hr
abbrev i_X4_greatestGroup : Nat := 62
theorem sg_X4_greatestGroup : sg i_X4_greatestGroup = s_X4_greatestGroup := rfl
theorem en_X4_greatestGroup {l : Launch} {G : GG} {mc ms : Nat} {As : List Value} {h : AH} {nx : Nat} {Post : Option Value → AH → Nat → Prop} (hX : XC G ∧ TX l G) (stops : List Nat) (f : Nat) (hlen : Nat.ble (lg_sl As).length 4 = true) (hr : run l G 4 s_X4_greatestGroup e_X4_greatestGroup mc ms Post stops f 0 (lv_args 0 As) [] h nx 0 0) : Runs l G i_X4_greatestGroup mc ms As h nx Post := Runs.of' sg_X4_greatestGroup ck_X4_greatestGroup rfl pl_RX4 hX stops f hlen hr
abbrev i_X5_init : Nat := 63
theorem sg_X5_init : sg i_X5_init = s_X5_init := rfl
theorem en_X5_init {l : Launch} {G : GG} {mc ms : Nat} {As : List Value} {h : AH} {nx : Nat} {Post : Option Value → AH → Nat → Prop} (hX : XC G ∧ TX l G) (stops : List Nat) (f : Nat) (hlen : Nat.ble (lg_sl As).length 3 = true) (hr : run l G 5 s_X5_init e_X5_init mc ms Post stops f 0 (lv_args 0 As) [] h nx 0 0) : Runs l G i_X5_init mc ms As h nx Post := Runs.of' sg_X5_init ck_X5_init rfl pl_RX5 hX stops f hlen hr
abbrev i_X5_findPlan : Nat := 64
theorem sg_X5_findPlan : sg i_X5_findPlan = s_X5_findPlan := rfl
theorem en_X5_findPlan {l : Launch} {G : GG} {mc ms : Nat} {As : List Value} {h : AH} {nx : Nat} {Post : Option Value → AH → Nat → Prop} (hX : XC G ∧ TX l G) (stops : List Nat) (f : Nat) (hlen : Nat.ble (lg_sl As).length 6 = true) (hr : run l G 5 s_X5_findPlan e_X5_findPlan mc ms Post stops f 0 (lv_args 0 As) [] h nx 0 0) : Runs l G i_X5_findPlan mc ms As h nx Post := Runs.of' sg_X5_findPlan ck_X5_findPlan rfl pl_RX5 hX stops f hlen hr
abbrev i_X5_listSets : Nat := 65
theorem sg_X5_listSets : sg i_X5_listSets = s_X5_listSets := rfl
theorem en_X5_listSets {l : Launch} {G : GG} {mc ms : Nat} {As : List Value} {h : AH} {nx : Nat} {Post : Option Value → AH → Nat → Prop} (hX : XC G ∧ TX l G) (stops : List Nat) (f : Nat) (hlen : Nat.ble (lg_sl As).length 4 = true) (hr : run l G 5 s_X5_listSets e_X5_listSets mc ms Post stops f 0 (lv_args 0 As) [] h nx 0 0) : Runs l G i_X5_listSets mc ms As h nx Post := Runs.of' sg_X5_listSets ck_X5_listSets rfl pl_RX5 hX stops f hlen hr
abbrev i_X5_stagesFrom : Nat := 66
theorem sg_X5_stagesFrom : sg i_X5_stagesFrom = s_X5_stagesFrom := rfl
theorem en_X5_stagesFrom {l : Launch} {G : GG} {mc ms : Nat} {As : List Value} {h : AH} {nx : Nat} {Post : Option Value → AH → Nat → Prop} (hX : XC G ∧ TX l G) (stops : List Nat) (f : Nat) (hlen : Nat.ble (lg_sl As).length 4 = true) (hr : run l G 5 s_X5_stagesFrom e_X5_stagesFrom mc ms Post stops f 0 (lv_args 0 As) [] h nx 0 0) : Runs l G i_X5_stagesFrom mc ms As h nx Post := Runs.of' sg_X5_stagesFrom ck_X5_stagesFrom rfl pl_RX5 hX stops f hlen hr
abbrev i_X5_isStage : Nat := 67
theorem sg_X5_isStage : sg i_X5_isStage = s_X5_isStage := rfl
theorem en_X5_isStage {l : Launch} {G : GG} {mc ms : Nat} {As : List Value} {h : AH} {nx : Nat} {Post : Option Value → AH → Nat → Prop} (hX : XC G ∧ TX l G) (stops : List Nat) (f : Nat) (hlen : Nat.ble (lg_sl As).length 3 = true) (hr : run l G 5 s_X5_isStage e_X5_isStage mc ms Post stops f 0 (lv_args 0 As) [] h nx 0 0) : Runs l G i_X5_isStage mc ms As h nx Post := Runs.of' sg_X5_isStage ck_X5_isStage rfl pl_RX5 hX stops f hlen hr
abbrev i_X5_stageCount : Nat := 68
theorem sg_X5_stageCount : sg i_X5_stageCount = s_X5_stageCount := rfl
theorem en_X5_stageCount {l : Launch} {G : GG} {mc ms : Nat} {As : List Value} {h : AH} {nx : Nat} {Post : Option Value → AH → Nat → Prop} (hX : XC G ∧ TX l G) (stops : List Nat) (f : Nat) (hlen : Nat.ble (lg_sl As).length 1 = true) (hr : run l G 5 s_X5_stageCount e_X5_stageCount mc ms Post stops f 0 (lv_args 0 As) [] h nx 0 0) : Runs l G i_X5_stageCount mc ms As h nx Post := Runs.of' sg_X5_stageCount ck_X5_stageCount rfl pl_RX5 hX stops f hlen hr
abbrev i_X5_setBehind : Nat := 69
theorem sg_X5_setBehind : sg i_X5_setBehind = s_X5_setBehind := rfl
theorem en_X5_setBehind {l : Launch} {G : GG} {mc ms : Nat} {As : List Value} {h : AH} {nx : Nat} {Post : Option Value → AH → Nat → Prop} (hX : XC G ∧ TX l G) (stops : List Nat) (f : Nat) (hlen : Nat.ble (lg_sl As).length 5 = true) (hr : run l G 5 s_X5_setBehind e_X5_setBehind mc ms Post stops f 0 (lv_args 0 As) [] h nx 0 0) : Runs l G i_X5_setBehind mc ms As h nx Post := Runs.of' sg_X5_setBehind ck_X5_setBehind rfl pl_RX5 hX stops f hlen hr
abbrev i_X6_init : Nat := 70
theorem sg_X6_init : sg i_X6_init = s_X6_init := rfl
theorem en_X6_init {l : Launch} {G : GG} {mc ms : Nat} {As : List Value} {h : AH} {nx : Nat} {Post : Option Value → AH → Nat → Prop} (hX : XC G ∧ TX l G) (stops : List Nat) (f : Nat) (hlen : Nat.ble (lg_sl As).length 1 = true) (hr : run l G 6 s_X6_init e_X6_init mc ms Post stops f 0 (lv_args 0 As) [] h nx 0 0) : Runs l G i_X6_init mc ms As h nx Post := Runs.of' sg_X6_init ck_X6_init rfl pl_RX6 hX stops f hlen hr
abbrev i_X6_faultPlace : Nat := 71
theorem sg_X6_faultPlace : sg i_X6_faultPlace = s_X6_faultPlace := rfl
theorem en_X6_faultPlace {l : Launch} {G : GG} {mc ms : Nat} {As : List Value} {h : AH} {nx : Nat} {Post : Option Value → AH → Nat → Prop} (hX : XC G ∧ TX l G) (stops : List Nat) (f : Nat) (hlen : Nat.ble (lg_sl As).length 1 = true) (hr : run l G 6 s_X6_faultPlace e_X6_faultPlace mc ms Post stops f 0 (lv_args 0 As) [] h nx 0 0) : Runs l G i_X6_faultPlace mc ms As h nx Post := Runs.of' sg_X6_faultPlace ck_X6_faultPlace rfl pl_RX6 hX stops f hlen hr
abbrev i_X6_judge : Nat := 72
theorem sg_X6_judge : sg i_X6_judge = s_X6_judge := rfl
theorem en_X6_judge {l : Launch} {G : GG} {mc ms : Nat} {As : List Value} {h : AH} {nx : Nat} {Post : Option Value → AH → Nat → Prop} (hX : XC G ∧ TX l G) (stops : List Nat) (f : Nat) (hlen : Nat.ble (lg_sl As).length 5 = true) (hr : run l G 6 s_X6_judge e_X6_judge mc ms Post stops f 0 (lv_args 0 As) [] h nx 0 0) : Runs l G i_X6_judge mc ms As h nx Post := Runs.of' sg_X6_judge ck_X6_judge rfl pl_RX6 hX stops f hlen hr
abbrev i_X6_forgetText : Nat := 73
theorem sg_X6_forgetText : sg i_X6_forgetText = s_X6_forgetText := rfl
theorem en_X6_forgetText {l : Launch} {G : GG} {mc ms : Nat} {As : List Value} {h : AH} {nx : Nat} {Post : Option Value → AH → Nat → Prop} (hX : XC G ∧ TX l G) (stops : List Nat) (f : Nat) (hlen : Nat.ble (lg_sl As).length 1 = true) (hr : run l G 6 s_X6_forgetText e_X6_forgetText mc ms Post stops f 0 (lv_args 0 As) [] h nx 0 0) : Runs l G i_X6_forgetText mc ms As h nx Post := Runs.of' sg_X6_forgetText ck_X6_forgetText rfl pl_RX6 hX stops f hlen hr
abbrev i_X6_stateBehind : Nat := 74
theorem sg_X6_stateBehind : sg i_X6_stateBehind = s_X6_stateBehind := rfl
theorem en_X6_stateBehind {l : Launch} {G : GG} {mc ms : Nat} {As : List Value} {h : AH} {nx : Nat} {Post : Option Value → AH → Nat → Prop} (hX : XC G ∧ TX l G) (stops : List Nat) (f : Nat) (hlen : Nat.ble (lg_sl As).length 2 = true) (hr : run l G 6 s_X6_stateBehind e_X6_stateBehind mc ms Post stops f 0 (lv_args 0 As) [] h nx 0 0) : Runs l G i_X6_stateBehind mc ms As h nx Post := Runs.of' sg_X6_stateBehind ck_X6_stateBehind rfl pl_RX6 hX stops f hlen hr
abbrev i_X6_stateBehindTell : Nat := 75
theorem sg_X6_stateBehindTell : sg i_X6_stateBehindTell = s_X6_stateBehindTell := rfl
theorem en_X6_stateBehindTell {l : Launch} {G : GG} {mc ms : Nat} {As : List Value} {h : AH} {nx : Nat} {Post : Option Value → AH → Nat → Prop} (hX : XC G ∧ TX l G) (stops : List Nat) (f : Nat) (hlen : Nat.ble (lg_sl As).length 1 = true) (hr : run l G 6 s_X6_stateBehindTell e_X6_stateBehindTell mc ms Post stops f 0 (lv_args 0 As) [] h nx 0 0) : Runs l G i_X6_stateBehindTell mc ms As h nx Post := Runs.of' sg_X6_stateBehindTell ck_X6_stateBehindTell rfl pl_RX6 hX stops f hlen hr
abbrev i_X6_stateBehindUnit : Nat := 76
theorem sg_X6_stateBehindUnit : sg i_X6_stateBehindUnit = s_X6_stateBehindUnit := rfl
theorem en_X6_stateBehindUnit {l : Launch} {G : GG} {mc ms : Nat} {As : List Value} {h : AH} {nx : Nat} {Post : Option Value → AH → Nat → Prop} (hX : XC G ∧ TX l G) (stops : List Nat) (f : Nat) (hlen : Nat.ble (lg_sl As).length 2 = true) (hr : run l G 6 s_X6_stateBehindUnit e_X6_stateBehindUnit mc ms Post stops f 0 (lv_args 0 As) [] h nx 0 0) : Runs l G i_X6_stateBehindUnit mc ms As h nx Post := Runs.of' sg_X6_stateBehindUnit ck_X6_stateBehindUnit rfl pl_RX6 hX stops f hlen hr
abbrev i_X6_isOutOfRoom : Nat := 77
theorem sg_X6_isOutOfRoom : sg i_X6_isOutOfRoom = s_X6_isOutOfRoom := rfl
theorem en_X6_isOutOfRoom {l : Launch} {G : GG} {mc ms : Nat} {As : List Value} {h : AH} {nx : Nat} {Post : Option Value → AH → Nat → Prop} (hX : XC G ∧ TX l G) (stops : List Nat) (f : Nat) (hlen : Nat.ble (lg_sl As).length 2 = true) (hr : run l G 6 s_X6_isOutOfRoom e_X6_isOutOfRoom mc ms Post stops f 0 (lv_args 0 As) [] h nx 0 0) : Runs l G i_X6_isOutOfRoom mc ms As h nx Post := Runs.of' sg_X6_isOutOfRoom ck_X6_isOutOfRoom rfl pl_RX6 hX stops f hlen hr
abbrev i_X6_isCircuitName : Nat := 78
theorem sg_X6_isCircuitName : sg i_X6_isCircuitName = s_X6_isCircuitName := rfl
theorem en_X6_isCircuitName {l : Launch} {G : GG} {mc ms : Nat} {As : List Value} {h : AH} {nx : Nat} {Post : Option Value → AH → Nat → Prop} (hX : XC G ∧ TX l G) (stops : List Nat) (f : Nat) (hlen : Nat.ble (lg_sl As).length 1 = true) (hr : run l G 6 s_X6_isCircuitName e_X6_isCircuitName mc ms Post stops f 0 (lv_args 0 As) [] h nx 0 0) : Runs l G i_X6_isCircuitName mc ms As h nx Post := Runs.of' sg_X6_isCircuitName ck_X6_isCircuitName rfl pl_RX6 hX stops f hlen hr
abbrev i_X6_isContact : Nat := 79
theorem sg_X6_isContact : sg i_X6_isContact = s_X6_isContact := rfl
theorem en_X6_isContact {l : Launch} {G : GG} {mc ms : Nat} {As : List Value} {h : AH} {nx : Nat} {Post : Option Value → AH → Nat → Prop} (hX : XC G ∧ TX l G) (stops : List Nat) (f : Nat) (hlen : Nat.ble (lg_sl As).length 2 = true) (hr : run l G 6 s_X6_isContact e_X6_isContact mc ms Post stops f 0 (lv_args 0 As) [] h nx 0 0) : Runs l G i_X6_isContact mc ms As h nx Post := Runs.of' sg_X6_isContact ck_X6_isContact rfl pl_RX6 hX stops f hlen hr
abbrev i_X6_keepToken : Nat := 80
theorem sg_X6_keepToken : sg i_X6_keepToken = s_X6_keepToken := rfl
theorem en_X6_keepToken {l : Launch} {G : GG} {mc ms : Nat} {As : List Value} {h : AH} {nx : Nat} {Post : Option Value → AH → Nat → Prop} (hX : XC G ∧ TX l G) (stops : List Nat) (f : Nat) (hlen : Nat.ble (lg_sl As).length 2 = true) (hr : run l G 6 s_X6_keepToken e_X6_keepToken mc ms Post stops f 0 (lv_args 0 As) [] h nx 0 0) : Runs l G i_X6_keepToken mc ms As h nx Post := Runs.of' sg_X6_keepToken ck_X6_keepToken rfl pl_RX6 hX stops f hlen hr
abbrev i_X6_keepName : Nat := 81
theorem sg_X6_keepName : sg i_X6_keepName = s_X6_keepName := rfl
theorem en_X6_keepName {l : Launch} {G : GG} {mc ms : Nat} {As : List Value} {h : AH} {nx : Nat} {Post : Option Value → AH → Nat → Prop} (hX : XC G ∧ TX l G) (stops : List Nat) (f : Nat) (hlen : Nat.ble (lg_sl As).length 1 = true) (hr : run l G 6 s_X6_keepName e_X6_keepName mc ms Post stops f 0 (lv_args 0 As) [] h nx 0 0) : Runs l G i_X6_keepName mc ms As h nx Post := Runs.of' sg_X6_keepName ck_X6_keepName rfl pl_RX6 hX stops f hlen hr
abbrev i_X6_keepTold : Nat := 82
theorem sg_X6_keepTold : sg i_X6_keepTold = s_X6_keepTold := rfl
theorem en_X6_keepTold {l : Launch} {G : GG} {mc ms : Nat} {As : List Value} {h : AH} {nx : Nat} {Post : Option Value → AH → Nat → Prop} (hX : XC G ∧ TX l G) (stops : List Nat) (f : Nat) (hlen : Nat.ble (lg_sl As).length 2 = true) (hr : run l G 6 s_X6_keepTold e_X6_keepTold mc ms Post stops f 0 (lv_args 0 As) [] h nx 0 0) : Runs l G i_X6_keepTold mc ms As h nx Post := Runs.of' sg_X6_keepTold ck_X6_keepTold rfl pl_RX6 hX stops f hlen hr
abbrev i_X6_judgeNames : Nat := 83
theorem sg_X6_judgeNames : sg i_X6_judgeNames = s_X6_judgeNames := rfl
theorem en_X6_judgeNames {l : Launch} {G : GG} {mc ms : Nat} {As : List Value} {h : AH} {nx : Nat} {Post : Option Value → AH → Nat → Prop} (hX : XC G ∧ TX l G) (stops : List Nat) (f : Nat) (hlen : Nat.ble (lg_sl As).length 4 = true) (hr : run l G 6 s_X6_judgeNames e_X6_judgeNames mc ms Post stops f 0 (lv_args 0 As) [] h nx 0 0) : Runs l G i_X6_judgeNames mc ms As h nx Post := Runs.of' sg_X6_judgeNames ck_X6_judgeNames rfl pl_RX6 hX stops f hlen hr
abbrev i_X6_tellsName : Nat := 84
theorem sg_X6_tellsName : sg i_X6_tellsName = s_X6_tellsName := rfl
theorem en_X6_tellsName {l : Launch} {G : GG} {mc ms : Nat} {As : List Value} {h : AH} {nx : Nat} {Post : Option Value → AH → Nat → Prop} (hX : XC G ∧ TX l G) (stops : List Nat) (f : Nat) (hlen : Nat.ble (lg_sl As).length 1 = true) (hr : run l G 6 s_X6_tellsName e_X6_tellsName mc ms Post stops f 0 (lv_args 0 As) [] h nx 0 0) : Runs l G i_X6_tellsName mc ms As h nx Post := Runs.of' sg_X6_tellsName ck_X6_tellsName rfl pl_RX6 hX stops f hlen hr
abbrev i_X6_faultOfToken : Nat := 85
theorem sg_X6_faultOfToken : sg i_X6_faultOfToken = s_X6_faultOfToken := rfl
theorem en_X6_faultOfToken {l : Launch} {G : GG} {mc ms : Nat} {As : List Value} {h : AH} {nx : Nat} {Post : Option Value → AH → Nat → Prop} (hX : XC G ∧ TX l G) (stops : List Nat) (f : Nat) (hlen : Nat.ble (lg_sl As).length 5 = true) (hr : run l G 6 s_X6_faultOfToken e_X6_faultOfToken mc ms Post stops f 0 (lv_args 0 As) [] h nx 0 0) : Runs l G i_X6_faultOfToken mc ms As h nx Post := Runs.of' sg_X6_faultOfToken ck_X6_faultOfToken rfl pl_RX6 hX stops f hlen hr
abbrev i_X6_isTold : Nat := 86
theorem sg_X6_isTold : sg i_X6_isTold = s_X6_isTold := rfl
theorem en_X6_isTold {l : Launch} {G : GG} {mc ms : Nat} {As : List Value} {h : AH} {nx : Nat} {Post : Option Value → AH → Nat → Prop} (hX : XC G ∧ TX l G) (stops : List Nat) (f : Nat) (hlen : Nat.ble (lg_sl As).length 5 = true) (hr : run l G 6 s_X6_isTold e_X6_isTold mc ms Post stops f 0 (lv_args 0 As) [] h nx 0 0) : Runs l G i_X6_isTold mc ms As h nx Post := Runs.of' sg_X6_isTold ck_X6_isTold rfl pl_RX6 hX stops f hlen hr
abbrev i_X6_greenOf : Nat := 87
theorem sg_X6_greenOf : sg i_X6_greenOf = s_X6_greenOf := rfl
theorem en_X6_greenOf {l : Launch} {G : GG} {mc ms : Nat} {As : List Value} {h : AH} {nx : Nat} {Post : Option Value → AH → Nat → Prop} (hX : XC G ∧ TX l G) (stops : List Nat) (f : Nat) (hlen : Nat.ble (lg_sl As).length 5 = true) (hr : run l G 6 s_X6_greenOf e_X6_greenOf mc ms Post stops f 0 (lv_args 0 As) [] h nx 0 0) : Runs l G i_X6_greenOf mc ms As h nx Post := Runs.of' sg_X6_greenOf ck_X6_greenOf rfl pl_RX6 hX stops f hlen hr
abbrev i_X6_variableOf : Nat := 88
theorem sg_X6_variableOf : sg i_X6_variableOf = s_X6_variableOf := rfl
theorem en_X6_variableOf {l : Launch} {G : GG} {mc ms : Nat} {As : List Value} {h : AH} {nx : Nat} {Post : Option Value → AH → Nat → Prop} (hX : XC G ∧ TX l G) (stops : List Nat) (f : Nat) (hlen : Nat.ble (lg_sl As).length 4 = true) (hr : run l G 6 s_X6_variableOf e_X6_variableOf mc ms Post stops f 0 (lv_args 0 As) [] h nx 0 0) : Runs l G i_X6_variableOf mc ms As h nx Post := Runs.of' sg_X6_variableOf ck_X6_variableOf rfl pl_RX6 hX stops f hlen hr
abbrev i_X6_draw : Nat := 89
theorem sg_X6_draw : sg i_X6_draw = s_X6_draw := rfl
theorem en_X6_draw {l : Launch} {G : GG} {mc ms : Nat} {As : List Value} {h : AH} {nx : Nat} {Post : Option Value → AH → Nat → Prop} (hX : XC G ∧ TX l G) (stops : List Nat) (f : Nat) (hlen : Nat.ble (lg_sl As).length 3 = true) (hr : run l G 6 s_X6_draw e_X6_draw mc ms Post stops f 0 (lv_args 0 As) [] h nx 0 0) : Runs l G i_X6_draw mc ms As h nx Post := Runs.of' sg_X6_draw ck_X6_draw rfl pl_RX6 hX stops f hlen hr
abbrev i_X6_circuitEnd : Nat := 90
theorem sg_X6_circuitEnd : sg i_X6_circuitEnd = s_X6_circuitEnd := rfl
theorem en_X6_circuitEnd {l : Launch} {G : GG} {mc ms : Nat} {As : List Value} {h : AH} {nx : Nat} {Post : Option Value → AH → Nat → Prop} (hX : XC G ∧ TX l G) (stops : List Nat) (f : Nat) (hlen : Nat.ble (lg_sl As).length 3 = true) (hr : run l G 6 s_X6_circuitEnd e_X6_circuitEnd mc ms Post stops f 0 (lv_args 0 As) [] h nx 0 0) : Runs l G i_X6_circuitEnd mc ms As h nx Post := Runs.of' sg_X6_circuitEnd ck_X6_circuitEnd rfl pl_RX6 hX stops f hlen hr
abbrev i_X6_drawCircuits : Nat := 91
theorem sg_X6_drawCircuits : sg i_X6_drawCircuits = s_X6_drawCircuits := rfl
theorem en_X6_drawCircuits {l : Launch} {G : GG} {mc ms : Nat} {As : List Value} {h : AH} {nx : Nat} {Post : Option Value → AH → Nat → Prop} (hX : XC G ∧ TX l G) (stops : List Nat) (f : Nat) (hlen : Nat.ble (lg_sl As).length 6 = true) (hr : run l G 6 s_X6_drawCircuits e_X6_drawCircuits mc ms Post stops f 0 (lv_args 0 As) [] h nx 0 0) : Runs l G i_X6_drawCircuits mc ms As h nx Post := Runs.of' sg_X6_drawCircuits ck_X6_drawCircuits rfl pl_RX6 hX stops f hlen hr
abbrev i_X6_drawNevers : Nat := 92
theorem sg_X6_drawNevers : sg i_X6_drawNevers = s_X6_drawNevers := rfl
theorem en_X6_drawNevers {l : Launch} {G : GG} {mc ms : Nat} {As : List Value} {h : AH} {nx : Nat} {Post : Option Value → AH → Nat → Prop} (hX : XC G ∧ TX l G) (stops : List Nat) (f : Nat) (hlen : Nat.ble (lg_sl As).length 5 = true) (hr : run l G 6 s_X6_drawNevers e_X6_drawNevers mc ms Post stops f 0 (lv_args 0 As) [] h nx 0 0) : Runs l G i_X6_drawNevers mc ms As h nx Post := Runs.of' sg_X6_drawNevers ck_X6_drawNevers rfl pl_RX6 hX stops f hlen hr
abbrev i_X7_init : Nat := 93
theorem sg_X7_init : sg i_X7_init = s_X7_init := rfl
theorem en_X7_init {l : Launch} {G : GG} {mc ms : Nat} {As : List Value} {h : AH} {nx : Nat} {Post : Option Value → AH → Nat → Prop} (hX : XC G ∧ TX l G) (stops : List Nat) (f : Nat) (hlen : Nat.ble (lg_sl As).length 2 = true) (hr : run l G 7 s_X7_init e_X7_init mc ms Post stops f 0 (lv_args 0 As) [] h nx 0 0) : Runs l G i_X7_init mc ms As h nx Post := Runs.of' sg_X7_init ck_X7_init rfl pl_RX7 hX stops f hlen hr
abbrev i_X7_reachedCount : Nat := 94
theorem sg_X7_reachedCount : sg i_X7_reachedCount = s_X7_reachedCount := rfl
theorem en_X7_reachedCount {l : Launch} {G : GG} {mc ms : Nat} {As : List Value} {h : AH} {nx : Nat} {Post : Option Value → AH → Nat → Prop} (hX : XC G ∧ TX l G) (stops : List Nat) (f : Nat) (hlen : Nat.ble (lg_sl As).length 1 = true) (hr : run l G 7 s_X7_reachedCount e_X7_reachedCount mc ms Post stops f 0 (lv_args 0 As) [] h nx 0 0) : Runs l G i_X7_reachedCount mc ms As h nx Post := Runs.of' sg_X7_reachedCount ck_X7_reachedCount rfl pl_RX7 hX stops f hlen hr
abbrev i_X7_raceCount : Nat := 95
theorem sg_X7_raceCount : sg i_X7_raceCount = s_X7_raceCount := rfl
theorem en_X7_raceCount {l : Launch} {G : GG} {mc ms : Nat} {As : List Value} {h : AH} {nx : Nat} {Post : Option Value → AH → Nat → Prop} (hX : XC G ∧ TX l G) (stops : List Nat) (f : Nat) (hlen : Nat.ble (lg_sl As).length 1 = true) (hr : run l G 7 s_X7_raceCount e_X7_raceCount mc ms Post stops f 0 (lv_args 0 As) [] h nx 0 0) : Runs l G i_X7_raceCount mc ms As h nx Post := Runs.of' sg_X7_raceCount ck_X7_raceCount rfl pl_RX7 hX stops f hlen hr
abbrev i_X7_isSafe : Nat := 96
theorem sg_X7_isSafe : sg i_X7_isSafe = s_X7_isSafe := rfl
theorem en_X7_isSafe {l : Launch} {G : GG} {mc ms : Nat} {As : List Value} {h : AH} {nx : Nat} {Post : Option Value → AH → Nat → Prop} (hX : XC G ∧ TX l G) (stops : List Nat) (f : Nat) (hlen : Nat.ble (lg_sl As).length 1 = true) (hr : run l G 7 s_X7_isSafe e_X7_isSafe mc ms Post stops f 0 (lv_args 0 As) [] h nx 0 0) : Runs l G i_X7_isSafe mc ms As h nx Post := Runs.of' sg_X7_isSafe ck_X7_isSafe rfl pl_RX7 hX stops f hlen hr
abbrev i_X7_explore : Nat := 97
theorem sg_X7_explore : sg i_X7_explore = s_X7_explore := rfl
theorem en_X7_explore {l : Launch} {G : GG} {mc ms : Nat} {As : List Value} {h : AH} {nx : Nat} {Post : Option Value → AH → Nat → Prop} (hX : XC G ∧ TX l G) (stops : List Nat) (f : Nat) (hlen : Nat.ble (lg_sl As).length 8 = true) (hr : run l G 7 s_X7_explore e_X7_explore mc ms Post stops f 0 (lv_args 0 As) [] h nx 0 0) : Runs l G i_X7_explore mc ms As h nx Post := Runs.of' sg_X7_explore ck_X7_explore rfl pl_RX7 hX stops f hlen hr
abbrev i_X7_isAtStop : Nat := 98
theorem sg_X7_isAtStop : sg i_X7_isAtStop = s_X7_isAtStop := rfl
theorem en_X7_isAtStop {l : Launch} {G : GG} {mc ms : Nat} {As : List Value} {h : AH} {nx : Nat} {Post : Option Value → AH → Nat → Prop} (hX : XC G ∧ TX l G) (stops : List Nat) (f : Nat) (hlen : Nat.ble (lg_sl As).length 3 = true) (hr : run l G 7 s_X7_isAtStop e_X7_isAtStop mc ms Post stops f 0 (lv_args 0 As) [] h nx 0 0) : Runs l G i_X7_isAtStop mc ms As h nx Post := Runs.of' sg_X7_isAtStop ck_X7_isAtStop rfl pl_RX7 hX stops f hlen hr
abbrev i_X7_startFrom : Nat := 99
theorem sg_X7_startFrom : sg i_X7_startFrom = s_X7_startFrom := rfl
theorem en_X7_startFrom {l : Launch} {G : GG} {mc ms : Nat} {As : List Value} {h : AH} {nx : Nat} {Post : Option Value → AH → Nat → Prop} (hX : XC G ∧ TX l G) (stops : List Nat) (f : Nat) (hlen : Nat.ble (lg_sl As).length 2 = true) (hr : run l G 7 s_X7_startFrom e_X7_startFrom mc ms Post stops f 0 (lv_args 0 As) [] h nx 0 0) : Runs l G i_X7_startFrom mc ms As h nx Post := Runs.of' sg_X7_startFrom ck_X7_startFrom rfl pl_RX7 hX stops f hlen hr
abbrev i_X7_reach : Nat := 100
theorem sg_X7_reach : sg i_X7_reach = s_X7_reach := rfl
theorem en_X7_reach {l : Launch} {G : GG} {mc ms : Nat} {As : List Value} {h : AH} {nx : Nat} {Post : Option Value → AH → Nat → Prop} (hX : XC G ∧ TX l G) (stops : List Nat) (f : Nat) (hlen : Nat.ble (lg_sl As).length 6 = true) (hr : run l G 7 s_X7_reach e_X7_reach mc ms Post stops f 0 (lv_args 0 As) [] h nx 0 0) : Runs l G i_X7_reach mc ms As h nx Post := Runs.of' sg_X7_reach ck_X7_reach rfl pl_RX7 hX stops f hlen hr
abbrev i_X7_actsToWrong : Nat := 101
theorem sg_X7_actsToWrong : sg i_X7_actsToWrong = s_X7_actsToWrong := rfl
theorem en_X7_actsToWrong {l : Launch} {G : GG} {mc ms : Nat} {As : List Value} {h : AH} {nx : Nat} {Post : Option Value → AH → Nat → Prop} (hX : XC G ∧ TX l G) (stops : List Nat) (f : Nat) (hlen : Nat.ble (lg_sl As).length 3 = true) (hr : run l G 7 s_X7_actsToWrong e_X7_actsToWrong mc ms Post stops f 0 (lv_args 0 As) [] h nx 0 0) : Runs l G i_X7_actsToWrong mc ms As h nx Post := Runs.of' sg_X7_actsToWrong ck_X7_actsToWrong rfl pl_RX7 hX stops f hlen hr
abbrev i_X7_actToWrong : Nat := 102
theorem sg_X7_actToWrong : sg i_X7_actToWrong = s_X7_actToWrong := rfl
theorem en_X7_actToWrong {l : Launch} {G : GG} {mc ms : Nat} {As : List Value} {h : AH} {nx : Nat} {Post : Option Value → AH → Nat → Prop} (hX : XC G ∧ TX l G) (stops : List Nat) (f : Nat) (hlen : Nat.ble (lg_sl As).length 5 = true) (hr : run l G 7 s_X7_actToWrong e_X7_actToWrong mc ms Post stops f 0 (lv_args 0 As) [] h nx 0 0) : Runs l G i_X7_actToWrong mc ms As h nx Post := Runs.of' sg_X7_actToWrong ck_X7_actToWrong rfl pl_RX7 hX stops f hlen hr
abbrev i_X7_countBad : Nat := 103
theorem sg_X7_countBad : sg i_X7_countBad = s_X7_countBad := rfl
theorem en_X7_countBad {l : Launch} {G : GG} {mc ms : Nat} {As : List Value} {h : AH} {nx : Nat} {Post : Option Value → AH → Nat → Prop} (hX : XC G ∧ TX l G) (stops : List Nat) (f : Nat) (hlen : Nat.ble (lg_sl As).length 5 = true) (hr : run l G 7 s_X7_countBad e_X7_countBad mc ms Post stops f 0 (lv_args 0 As) [] h nx 0 0) : Runs l G i_X7_countBad mc ms As h nx Post := Runs.of' sg_X7_countBad ck_X7_countBad rfl pl_RX7 hX stops f hlen hr
abbrev i_X7_findPartners : Nat := 104
theorem sg_X7_findPartners : sg i_X7_findPartners = s_X7_findPartners := rfl
theorem en_X7_findPartners {l : Launch} {G : GG} {mc ms : Nat} {As : List Value} {h : AH} {nx : Nat} {Post : Option Value → AH → Nat → Prop} (hX : XC G ∧ TX l G) (stops : List Nat) (f : Nat) (hlen : Nat.ble (lg_sl As).length 6 = true) (hr : run l G 7 s_X7_findPartners e_X7_findPartners mc ms Post stops f 0 (lv_args 0 As) [] h nx 0 0) : Runs l G i_X7_findPartners mc ms As h nx Post := Runs.of' sg_X7_findPartners ck_X7_findPartners rfl pl_RX7 hX stops f hlen hr
abbrev i_X7_areBadTogether : Nat := 105
theorem sg_X7_areBadTogether : sg i_X7_areBadTogether = s_X7_areBadTogether := rfl
theorem en_X7_areBadTogether {l : Launch} {G : GG} {mc ms : Nat} {As : List Value} {h : AH} {nx : Nat} {Post : Option Value → AH → Nat → Prop} (hX : XC G ∧ TX l G) (stops : List Nat) (f : Nat) (hlen : Nat.ble (lg_sl As).length 4 = true) (hr : run l G 7 s_X7_areBadTogether e_X7_areBadTogether mc ms Post stops f 0 (lv_args 0 As) [] h nx 0 0) : Runs l G i_X7_areBadTogether mc ms As h nx Post := Runs.of' sg_X7_areBadTogether ck_X7_areBadTogether rfl pl_RX7 hX stops f hlen hr
abbrev i_X8_init : Nat := 106
theorem sg_X8_init : sg i_X8_init = s_X8_init := rfl
theorem en_X8_init {l : Launch} {G : GG} {mc ms : Nat} {As : List Value} {h : AH} {nx : Nat} {Post : Option Value → AH → Nat → Prop} (hX : XC G ∧ TX l G) (stops : List Nat) (f : Nat) (hlen : Nat.ble (lg_sl As).length 1 = true) (hr : run l G 8 s_X8_init e_X8_init mc ms Post stops f 0 (lv_args 0 As) [] h nx 0 0) : Runs l G i_X8_init mc ms As h nx Post := Runs.of' sg_X8_init ck_X8_init rfl pl_RX8 hX stops f hlen hr
abbrev i_X8_takeText : Nat := 107
theorem sg_X8_takeText : sg i_X8_takeText = s_X8_takeText := rfl
theorem en_X8_takeText {l : Launch} {G : GG} {mc ms : Nat} {As : List Value} {h : AH} {nx : Nat} {Post : Option Value → AH → Nat → Prop} (hX : XC G ∧ TX l G) (stops : List Nat) (f : Nat) (hlen : Nat.ble (lg_sl As).length 3 = true) (hr : run l G 8 s_X8_takeText e_X8_takeText mc ms Post stops f 0 (lv_args 0 As) [] h nx 0 0) : Runs l G i_X8_takeText mc ms As h nx Post := Runs.of' sg_X8_takeText ck_X8_takeText rfl pl_RX8 hX stops f hlen hr
abbrev i_X8_pack : Nat := 108
theorem sg_X8_pack : sg i_X8_pack = s_X8_pack := rfl
theorem en_X8_pack {l : Launch} {G : GG} {mc ms : Nat} {As : List Value} {h : AH} {nx : Nat} {Post : Option Value → AH → Nat → Prop} (hX : XC G ∧ TX l G) (stops : List Nat) (f : Nat) (hlen : Nat.ble (lg_sl As).length 4 = true) (hr : run l G 8 s_X8_pack e_X8_pack mc ms Post stops f 0 (lv_args 0 As) [] h nx 0 0) : Runs l G i_X8_pack mc ms As h nx Post := Runs.of' sg_X8_pack ck_X8_pack rfl pl_RX8 hX stops f hlen hr
abbrev i_X8_packLetter : Nat := 109
theorem sg_X8_packLetter : sg i_X8_packLetter = s_X8_packLetter := rfl
theorem en_X8_packLetter {l : Launch} {G : GG} {mc ms : Nat} {As : List Value} {h : AH} {nx : Nat} {Post : Option Value → AH → Nat → Prop} (hX : XC G ∧ TX l G) (stops : List Nat) (f : Nat) (hlen : Nat.ble (lg_sl As).length 3 = true) (hr : run l G 8 s_X8_packLetter e_X8_packLetter mc ms Post stops f 0 (lv_args 0 As) [] h nx 0 0) : Runs l G i_X8_packLetter mc ms As h nx Post := Runs.of' sg_X8_packLetter ck_X8_packLetter rfl pl_RX8 hX stops f hlen hr
abbrev i_X8_takeToken : Nat := 110
theorem sg_X8_takeToken : sg i_X8_takeToken = s_X8_takeToken := rfl
theorem en_X8_takeToken {l : Launch} {G : GG} {mc ms : Nat} {As : List Value} {h : AH} {nx : Nat} {Post : Option Value → AH → Nat → Prop} (hX : XC G ∧ TX l G) (stops : List Nat) (f : Nat) (hlen : Nat.ble (lg_sl As).length 2 = true) (hr : run l G 8 s_X8_takeToken e_X8_takeToken mc ms Post stops f 0 (lv_args 0 As) [] h nx 0 0) : Runs l G i_X8_takeToken mc ms As h nx Post := Runs.of' sg_X8_takeToken ck_X8_takeToken rfl pl_RX8 hX stops f hlen hr
abbrev i_X8_takeWord : Nat := 111
theorem sg_X8_takeWord : sg i_X8_takeWord = s_X8_takeWord := rfl
theorem en_X8_takeWord {l : Launch} {G : GG} {mc ms : Nat} {As : List Value} {h : AH} {nx : Nat} {Post : Option Value → AH → Nat → Prop} (hX : XC G ∧ TX l G) (stops : List Nat) (f : Nat) (hlen : Nat.ble (lg_sl As).length 1 = true) (hr : run l G 8 s_X8_takeWord e_X8_takeWord mc ms Post stops f 0 (lv_args 0 As) [] h nx 0 0) : Runs l G i_X8_takeWord mc ms As h nx Post := Runs.of' sg_X8_takeWord ck_X8_takeWord rfl pl_RX8 hX stops f hlen hr
abbrev i_X8_kindOfWord : Nat := 112
theorem sg_X8_kindOfWord : sg i_X8_kindOfWord = s_X8_kindOfWord := rfl
theorem en_X8_kindOfWord {l : Launch} {G : GG} {mc ms : Nat} {As : List Value} {h : AH} {nx : Nat} {Post : Option Value → AH → Nat → Prop} (hX : XC G ∧ TX l G) (stops : List Nat) (f : Nat) (hlen : Nat.ble (lg_sl As).length 2 = true) (hr : run l G 8 s_X8_kindOfWord e_X8_kindOfWord mc ms Post stops f 0 (lv_args 0 As) [] h nx 0 0) : Runs l G i_X8_kindOfWord mc ms As h nx Post := Runs.of' sg_X8_kindOfWord ck_X8_kindOfWord rfl pl_RX8 hX stops f hlen hr
abbrev i_X8_takeNumber : Nat := 113
theorem sg_X8_takeNumber : sg i_X8_takeNumber = s_X8_takeNumber := rfl
theorem en_X8_takeNumber {l : Launch} {G : GG} {mc ms : Nat} {As : List Value} {h : AH} {nx : Nat} {Post : Option Value → AH → Nat → Prop} (hX : XC G ∧ TX l G) (stops : List Nat) (f : Nat) (hlen : Nat.ble (lg_sl As).length 1 = true) (hr : run l G 8 s_X8_takeNumber e_X8_takeNumber mc ms Post stops f 0 (lv_args 0 As) [] h nx 0 0) : Runs l G i_X8_takeNumber mc ms As h nx Post := Runs.of' sg_X8_takeNumber ck_X8_takeNumber rfl pl_RX8 hX stops f hlen hr
abbrev i_X8_isBlank : Nat := 114
theorem sg_X8_isBlank : sg i_X8_isBlank = s_X8_isBlank := rfl
theorem en_X8_isBlank {l : Launch} {G : GG} {mc ms : Nat} {As : List Value} {h : AH} {nx : Nat} {Post : Option Value → AH → Nat → Prop} (hX : XC G ∧ TX l G) (stops : List Nat) (f : Nat) (hlen : Nat.ble (lg_sl As).length 1 = true) (hr : run l G 8 s_X8_isBlank e_X8_isBlank mc ms Post stops f 0 (lv_args 0 As) [] h nx 0 0) : Runs l G i_X8_isBlank mc ms As h nx Post := Runs.of' sg_X8_isBlank ck_X8_isBlank rfl pl_RX8 hX stops f hlen hr
abbrev i_X8_isLetter : Nat := 115
theorem sg_X8_isLetter : sg i_X8_isLetter = s_X8_isLetter := rfl
theorem en_X8_isLetter {l : Launch} {G : GG} {mc ms : Nat} {As : List Value} {h : AH} {nx : Nat} {Post : Option Value → AH → Nat → Prop} (hX : XC G ∧ TX l G) (stops : List Nat) (f : Nat) (hlen : Nat.ble (lg_sl As).length 1 = true) (hr : run l G 8 s_X8_isLetter e_X8_isLetter mc ms Post stops f 0 (lv_args 0 As) [] h nx 0 0) : Runs l G i_X8_isLetter mc ms As h nx Post := Runs.of' sg_X8_isLetter ck_X8_isLetter rfl pl_RX8 hX stops f hlen hr
abbrev i_X8_isDigit : Nat := 116
theorem sg_X8_isDigit : sg i_X8_isDigit = s_X8_isDigit := rfl
theorem en_X8_isDigit {l : Launch} {G : GG} {mc ms : Nat} {As : List Value} {h : AH} {nx : Nat} {Post : Option Value → AH → Nat → Prop} (hX : XC G ∧ TX l G) (stops : List Nat) (f : Nat) (hlen : Nat.ble (lg_sl As).length 1 = true) (hr : run l G 8 s_X8_isDigit e_X8_isDigit mc ms Post stops f 0 (lv_args 0 As) [] h nx 0 0) : Runs l G i_X8_isDigit mc ms As h nx Post := Runs.of' sg_X8_isDigit ck_X8_isDigit rfl pl_RX8 hX stops f hlen hr
abbrev i_X9_init : Nat := 117
theorem sg_X9_init : sg i_X9_init = s_X9_init := rfl
theorem en_X9_init {l : Launch} {G : GG} {mc ms : Nat} {As : List Value} {h : AH} {nx : Nat} {Post : Option Value → AH → Nat → Prop} (hX : XC G ∧ TX l G) (stops : List Nat) (f : Nat) (hlen : Nat.ble (lg_sl As).length 3 = true) (hr : run l G 9 s_X9_init e_X9_init mc ms Post stops f 0 (lv_args 0 As) [] h nx 0 0) : Runs l G i_X9_init mc ms As h nx Post := Runs.of' sg_X9_init ck_X9_init rfl pl_RX9 hX stops f hlen hr
abbrev i_X9_actsOf : Nat := 118
theorem sg_X9_actsOf : sg i_X9_actsOf = s_X9_actsOf := rfl
theorem en_X9_actsOf {l : Launch} {G : GG} {mc ms : Nat} {As : List Value} {h : AH} {nx : Nat} {Post : Option Value → AH → Nat → Prop} (hX : XC G ∧ TX l G) (stops : List Nat) (f : Nat) (hlen : Nat.ble (lg_sl As).length 2 = true) (hr : run l G 9 s_X9_actsOf e_X9_actsOf mc ms Post stops f 0 (lv_args 0 As) [] h nx 0 0) : Runs l G i_X9_actsOf mc ms As h nx Post := Runs.of' sg_X9_actsOf ck_X9_actsOf rfl pl_RX9 hX stops f hlen hr
abbrev i_X9_actAt : Nat := 119
theorem sg_X9_actAt : sg i_X9_actAt = s_X9_actAt := rfl
theorem en_X9_actAt {l : Launch} {G : GG} {mc ms : Nat} {As : List Value} {h : AH} {nx : Nat} {Post : Option Value → AH → Nat → Prop} (hX : XC G ∧ TX l G) (stops : List Nat) (f : Nat) (hlen : Nat.ble (lg_sl As).length 3 = true) (hr : run l G 9 s_X9_actAt e_X9_actAt mc ms Post stops f 0 (lv_args 0 As) [] h nx 0 0) : Runs l G i_X9_actAt mc ms As h nx Post := Runs.of' sg_X9_actAt ck_X9_actAt rfl pl_RX9 hX stops f hlen hr
abbrev i_X9_leastTest : Nat := 120
theorem sg_X9_leastTest : sg i_X9_leastTest = s_X9_leastTest := rfl
theorem en_X9_leastTest {l : Launch} {G : GG} {mc ms : Nat} {As : List Value} {h : AH} {nx : Nat} {Post : Option Value → AH → Nat → Prop} (hX : XC G ∧ TX l G) (stops : List Nat) (f : Nat) (hlen : Nat.ble (lg_sl As).length 8 = true) (hr : run l G 9 s_X9_leastTest e_X9_leastTest mc ms Post stops f 0 (lv_args 0 As) [] h nx 0 0) : Runs l G i_X9_leastTest mc ms As h nx Post := Runs.of' sg_X9_leastTest ck_X9_leastTest rfl pl_RX9 hX stops f hlen hr
abbrev i_X9_beginSearch : Nat := 121
theorem sg_X9_beginSearch : sg i_X9_beginSearch = s_X9_beginSearch := rfl
theorem en_X9_beginSearch {l : Launch} {G : GG} {mc ms : Nat} {As : List Value} {h : AH} {nx : Nat} {Post : Option Value → AH → Nat → Prop} (hX : XC G ∧ TX l G) (stops : List Nat) (f : Nat) (hlen : Nat.ble (lg_sl As).length 4 = true) (hr : run l G 9 s_X9_beginSearch e_X9_beginSearch mc ms Post stops f 0 (lv_args 0 As) [] h nx 0 0) : Runs l G i_X9_beginSearch mc ms As h nx Post := Runs.of' sg_X9_beginSearch ck_X9_beginSearch rfl pl_RX9 hX stops f hlen hr
abbrev i_X9_prepareBoth : Nat := 122
theorem sg_X9_prepareBoth : sg i_X9_prepareBoth = s_X9_prepareBoth := rfl
theorem en_X9_prepareBoth {l : Launch} {G : GG} {mc ms : Nat} {As : List Value} {h : AH} {nx : Nat} {Post : Option Value → AH → Nat → Prop} (hX : XC G ∧ TX l G) (stops : List Nat) (f : Nat) (hlen : Nat.ble (lg_sl As).length 3 = true) (hr : run l G 9 s_X9_prepareBoth e_X9_prepareBoth mc ms Post stops f 0 (lv_args 0 As) [] h nx 0 0) : Runs l G i_X9_prepareBoth mc ms As h nx Post := Runs.of' sg_X9_prepareBoth ck_X9_prepareBoth rfl pl_RX9 hX stops f hlen hr
abbrev i_X9_look : Nat := 123
theorem sg_X9_look : sg i_X9_look = s_X9_look := rfl
theorem en_X9_look {l : Launch} {G : GG} {mc ms : Nat} {As : List Value} {h : AH} {nx : Nat} {Post : Option Value → AH → Nat → Prop} (hX : XC G ∧ TX l G) (stops : List Nat) (f : Nat) (hlen : Nat.ble (lg_sl As).length 5 = true) (hr : run l G 9 s_X9_look e_X9_look mc ms Post stops f 0 (lv_args 0 As) [] h nx 0 0) : Runs l G i_X9_look mc ms As h nx Post := Runs.of' sg_X9_look ck_X9_look rfl pl_RX9 hX stops f hlen hr
abbrev i_X9_actFrom : Nat := 124
theorem sg_X9_actFrom : sg i_X9_actFrom = s_X9_actFrom := rfl
theorem en_X9_actFrom {l : Launch} {G : GG} {mc ms : Nat} {As : List Value} {h : AH} {nx : Nat} {Post : Option Value → AH → Nat → Prop} (hX : XC G ∧ TX l G) (stops : List Nat) (f : Nat) (hlen : Nat.ble (lg_sl As).length 9 = true) (hr : run l G 9 s_X9_actFrom e_X9_actFrom mc ms Post stops f 0 (lv_args 0 As) [] h nx 0 0) : Runs l G i_X9_actFrom mc ms As h nx Post := Runs.of' sg_X9_actFrom ck_X9_actFrom rfl pl_RX9 hX stops f hlen hr
abbrev i_X9_reachPlace : Nat := 125
theorem sg_X9_reachPlace : sg i_X9_reachPlace = s_X9_reachPlace := rfl
theorem en_X9_reachPlace {l : Launch} {G : GG} {mc ms : Nat} {As : List Value} {h : AH} {nx : Nat} {Post : Option Value → AH → Nat → Prop} (hX : XC G ∧ TX l G) (stops : List Nat) (f : Nat) (hlen : Nat.ble (lg_sl As).length 9 = true) (hr : run l G 9 s_X9_reachPlace e_X9_reachPlace mc ms Post stops f 0 (lv_args 0 As) [] h nx 0 0) : Runs l G i_X9_reachPlace mc ms As h nx Post := Runs.of' sg_X9_reachPlace ck_X9_reachPlace rfl pl_RX9 hX stops f hlen hr
abbrev i_X9_testTo : Nat := 126
theorem sg_X9_testTo : sg i_X9_testTo = s_X9_testTo := rfl
theorem en_X9_testTo {l : Launch} {G : GG} {mc ms : Nat} {As : List Value} {h : AH} {nx : Nat} {Post : Option Value → AH → Nat → Prop} (hX : XC G ∧ TX l G) (stops : List Nat) (f : Nat) (hlen : Nat.ble (lg_sl As).length 8 = true) (hr : run l G 9 s_X9_testTo e_X9_testTo mc ms Post stops f 0 (lv_args 0 As) [] h nx 0 0) : Runs l G i_X9_testTo mc ms As h nx Post := Runs.of' sg_X9_testTo ck_X9_testTo rfl pl_RX9 hX stops f hlen hr
abbrev i_X9_isSeeing : Nat := 127
theorem sg_X9_isSeeing : sg i_X9_isSeeing = s_X9_isSeeing := rfl
theorem en_X9_isSeeing {l : Launch} {G : GG} {mc ms : Nat} {As : List Value} {h : AH} {nx : Nat} {Post : Option Value → AH → Nat → Prop} (hX : XC G ∧ TX l G) (stops : List Nat) (f : Nat) (hlen : Nat.ble (lg_sl As).length 9 = true) (hr : run l G 9 s_X9_isSeeing e_X9_isSeeing mc ms Post stops f 0 (lv_args 0 As) [] h nx 0 0) : Runs l G i_X9_isSeeing mc ms As h nx Post := Runs.of' sg_X9_isSeeing ck_X9_isSeeing rfl pl_RX9 hX stops f hlen hr
abbrev i_X9_countHidden : Nat := 128
theorem sg_X9_countHidden : sg i_X9_countHidden = s_X9_countHidden := rfl
theorem en_X9_countHidden {l : Launch} {G : GG} {mc ms : Nat} {As : List Value} {h : AH} {nx : Nat} {Post : Option Value → AH → Nat → Prop} (hX : XC G ∧ TX l G) (stops : List Nat) (f : Nat) (hlen : Nat.ble (lg_sl As).length 4 = true) (hr : run l G 9 s_X9_countHidden e_X9_countHidden mc ms Post stops f 0 (lv_args 0 As) [] h nx 0 0) : Runs l G i_X9_countHidden mc ms As h nx Post := Runs.of' sg_X9_countHidden ck_X9_countHidden rfl pl_RX9 hX stops f hlen hr
abbrev i_X9_makeSuite : Nat := 129
theorem sg_X9_makeSuite : sg i_X9_makeSuite = s_X9_makeSuite := rfl
theorem en_X9_makeSuite {l : Launch} {G : GG} {mc ms : Nat} {As : List Value} {h : AH} {nx : Nat} {Post : Option Value → AH → Nat → Prop} (hX : XC G ∧ TX l G) (stops : List Nat) (f : Nat) (hlen : Nat.ble (lg_sl As).length 8 = true) (hr : run l G 9 s_X9_makeSuite e_X9_makeSuite mc ms Post stops f 0 (lv_args 0 As) [] h nx 0 0) : Runs l G i_X9_makeSuite mc ms As h nx Post := Runs.of' sg_X9_makeSuite ck_X9_makeSuite rfl pl_RX9 hX stops f hlen hr
abbrev i_X10_init : Nat := 130
theorem sg_X10_init : sg i_X10_init = s_X10_init := rfl
theorem en_X10_init {l : Launch} {G : GG} {mc ms : Nat} {As : List Value} {h : AH} {nx : Nat} {Post : Option Value → AH → Nat → Prop} (hX : XC G ∧ TX l G) (stops : List Nat) (f : Nat) (hlen : Nat.ble (lg_sl As).length 2 = true) (hr : run l G 10 s_X10_init e_X10_init mc ms Post stops f 0 (lv_args 0 As) [] h nx 0 0) : Runs l G i_X10_init mc ms As h nx Post := Runs.of' sg_X10_init ck_X10_init rfl pl_RX10 hX stops f hlen hr
abbrev i_X10_contactsIn : Nat := 131
theorem sg_X10_contactsIn : sg i_X10_contactsIn = s_X10_contactsIn := rfl
theorem en_X10_contactsIn {l : Launch} {G : GG} {mc ms : Nat} {As : List Value} {h : AH} {nx : Nat} {Post : Option Value → AH → Nat → Prop} (hX : XC G ∧ TX l G) (stops : List Nat) (f : Nat) (hlen : Nat.ble (lg_sl As).length 5 = true) (hr : run l G 10 s_X10_contactsIn e_X10_contactsIn mc ms Post stops f 0 (lv_args 0 As) [] h nx 0 0) : Runs l G i_X10_contactsIn mc ms As h nx Post := Runs.of' sg_X10_contactsIn ck_X10_contactsIn rfl pl_RX10 hX stops f hlen hr
abbrev i_X10_connect : Nat := 132
theorem sg_X10_connect : sg i_X10_connect = s_X10_connect := rfl
theorem en_X10_connect {l : Launch} {G : GG} {mc ms : Nat} {As : List Value} {h : AH} {nx : Nat} {Post : Option Value → AH → Nat → Prop} (hX : XC G ∧ TX l G) (stops : List Nat) (f : Nat) (hlen : Nat.ble (lg_sl As).length 11 = true) (hr : run l G 10 s_X10_connect e_X10_connect mc ms Post stops f 0 (lv_args 0 As) [] h nx 0 0) : Runs l G i_X10_connect mc ms As h nx Post := Runs.of' sg_X10_connect ck_X10_connect rfl pl_RX10 hX stops f hlen hr
abbrev i_X10_putContact : Nat := 133
theorem sg_X10_putContact : sg i_X10_putContact = s_X10_putContact := rfl
theorem en_X10_putContact {l : Launch} {G : GG} {mc ms : Nat} {As : List Value} {h : AH} {nx : Nat} {Post : Option Value → AH → Nat → Prop} (hX : XC G ∧ TX l G) (stops : List Nat) (f : Nat) (hlen : Nat.ble (lg_sl As).length 6 = true) (hr : run l G 10 s_X10_putContact e_X10_putContact mc ms Post stops f 0 (lv_args 0 As) [] h nx 0 0) : Runs l G i_X10_putContact mc ms As h nx Post := Runs.of' sg_X10_putContact ck_X10_putContact rfl pl_RX10 hX stops f hlen hr
abbrev i_X10_isClosed : Nat := 134
theorem sg_X10_isClosed : sg i_X10_isClosed = s_X10_isClosed := rfl
theorem en_X10_isClosed {l : Launch} {G : GG} {mc ms : Nat} {As : List Value} {h : AH} {nx : Nat} {Post : Option Value → AH → Nat → Prop} (hX : XC G ∧ TX l G) (stops : List Nat) (f : Nat) (hlen : Nat.ble (lg_sl As).length 3 = true) (hr : run l G 10 s_X10_isClosed e_X10_isClosed mc ms Post stops f 0 (lv_args 0 As) [] h nx 0 0) : Runs l G i_X10_isClosed mc ms As h nx Post := Runs.of' sg_X10_isClosed ck_X10_isClosed rfl pl_RX10 hX stops f hlen hr
abbrev i_X10_holds : Nat := 135
theorem sg_X10_holds : sg i_X10_holds = s_X10_holds := rfl
theorem en_X10_holds {l : Launch} {G : GG} {mc ms : Nat} {As : List Value} {h : AH} {nx : Nat} {Post : Option Value → AH → Nat → Prop} (hX : XC G ∧ TX l G) (stops : List Nat) (f : Nat) (hlen : Nat.ble (lg_sl As).length 5 = true) (hr : run l G 10 s_X10_holds e_X10_holds mc ms Post stops f 0 (lv_args 0 As) [] h nx 0 0) : Runs l G i_X10_holds mc ms As h nx Post := Runs.of' sg_X10_holds ck_X10_holds rfl pl_RX10 hX stops f hlen hr
abbrev i_X10_circuitsWith : Nat := 136
theorem sg_X10_circuitsWith : sg i_X10_circuitsWith = s_X10_circuitsWith := rfl
theorem en_X10_circuitsWith {l : Launch} {G : GG} {mc ms : Nat} {As : List Value} {h : AH} {nx : Nat} {Post : Option Value → AH → Nat → Prop} (hX : XC G ∧ TX l G) (stops : List Nat) (f : Nat) (hlen : Nat.ble (lg_sl As).length 8 = true) (hr : run l G 10 s_X10_circuitsWith e_X10_circuitsWith mc ms Post stops f 0 (lv_args 0 As) [] h nx 0 0) : Runs l G i_X10_circuitsWith mc ms As h nx Post := Runs.of' sg_X10_circuitsWith ck_X10_circuitsWith rfl pl_RX10 hX stops f hlen hr
abbrev i_X10_fillTables : Nat := 137
theorem sg_X10_fillTables : sg i_X10_fillTables = s_X10_fillTables := rfl
theorem en_X10_fillTables {l : Launch} {G : GG} {mc ms : Nat} {As : List Value} {h : AH} {nx : Nat} {Post : Option Value → AH → Nat → Prop} (hX : XC G ∧ TX l G) (stops : List Nat) (f : Nat) (hlen : Nat.ble (lg_sl As).length 6 = true) (hr : run l G 10 s_X10_fillTables e_X10_fillTables mc ms Post stops f 0 (lv_args 0 As) [] h nx 0 0) : Runs l G i_X10_fillTables mc ms As h nx Post := Runs.of' sg_X10_fillTables ck_X10_fillTables rfl pl_RX10 hX stops f hlen hr
abbrev i_X10_contactsAt : Nat := 138
theorem sg_X10_contactsAt : sg i_X10_contactsAt = s_X10_contactsAt := rfl
theorem en_X10_contactsAt {l : Launch} {G : GG} {mc ms : Nat} {As : List Value} {h : AH} {nx : Nat} {Post : Option Value → AH → Nat → Prop} (hX : XC G ∧ TX l G) (stops : List Nat) (f : Nat) (hlen : Nat.ble (lg_sl As).length 2 = true) (hr : run l G 10 s_X10_contactsAt e_X10_contactsAt mc ms Post stops f 0 (lv_args 0 As) [] h nx 0 0) : Runs l G i_X10_contactsAt mc ms As h nx Post := Runs.of' sg_X10_contactsAt ck_X10_contactsAt rfl pl_RX10 hX stops f hlen hr
abbrev i_X11_init : Nat := 139
theorem sg_X11_init : sg i_X11_init = s_X11_init := rfl
theorem en_X11_init {l : Launch} {G : GG} {mc ms : Nat} {As : List Value} {h : AH} {nx : Nat} {Post : Option Value → AH → Nat → Prop} (hX : XC G ∧ TX l G) (stops : List Nat) (f : Nat) (hlen : Nat.ble (lg_sl As).length 1 = true) (hr : run l G 11 s_X11_init e_X11_init mc ms Post stops f 0 (lv_args 0 As) [] h nx 0 0) : Runs l G i_X11_init mc ms As h nx Post := Runs.of' sg_X11_init ck_X11_init rfl pl_RX11 hX stops f hlen hr
abbrev i_X11_feed : Nat := 140
theorem sg_X11_feed : sg i_X11_feed = s_X11_feed := rfl
theorem en_X11_feed {l : Launch} {G : GG} {mc ms : Nat} {As : List Value} {h : AH} {nx : Nat} {Post : Option Value → AH → Nat → Prop} (hX : XC G ∧ TX l G) (stops : List Nat) (f : Nat) (hlen : Nat.ble (lg_sl As).length 6 = true) (hr : run l G 11 s_X11_feed e_X11_feed mc ms Post stops f 0 (lv_args 0 As) [] h nx 0 0) : Runs l G i_X11_feed mc ms As h nx Post := Runs.of' sg_X11_feed ck_X11_feed rfl pl_RX11 hX stops f hlen hr
abbrev i_X11_putBytes : Nat := 141
theorem sg_X11_putBytes : sg i_X11_putBytes = s_X11_putBytes := rfl
theorem en_X11_putBytes {l : Launch} {G : GG} {mc ms : Nat} {As : List Value} {h : AH} {nx : Nat} {Post : Option Value → AH → Nat → Prop} (hX : XC G ∧ TX l G) (stops : List Nat) (f : Nat) (hlen : Nat.ble (lg_sl As).length 3 = true) (hr : run l G 11 s_X11_putBytes e_X11_putBytes mc ms Post stops f 0 (lv_args 0 As) [] h nx 0 0) : Runs l G i_X11_putBytes mc ms As h nx Post := Runs.of' sg_X11_putBytes ck_X11_putBytes rfl pl_RX11 hX stops f hlen hr
abbrev i_X11_back : Nat := 142
theorem sg_X11_back : sg i_X11_back = s_X11_back := rfl
theorem en_X11_back {l : Launch} {G : GG} {mc ms : Nat} {As : List Value} {h : AH} {nx : Nat} {Post : Option Value → AH → Nat → Prop} (hX : XC G ∧ TX l G) (stops : List Nat) (f : Nat) (hlen : Nat.ble (lg_sl As).length 2 = true) (hr : run l G 11 s_X11_back e_X11_back mc ms Post stops f 0 (lv_args 0 As) [] h nx 0 0) : Runs l G i_X11_back mc ms As h nx Post := Runs.of' sg_X11_back ck_X11_back rfl pl_RX11 hX stops f hlen hr
abbrev i_X11_read : Nat := 143
theorem sg_X11_read : sg i_X11_read = s_X11_read := rfl
theorem en_X11_read {l : Launch} {G : GG} {mc ms : Nat} {As : List Value} {h : AH} {nx : Nat} {Post : Option Value → AH → Nat → Prop} (hX : XC G ∧ TX l G) (stops : List Nat) (f : Nat) (hlen : Nat.ble (lg_sl As).length 2 = true) (hr : run l G 11 s_X11_read e_X11_read mc ms Post stops f 0 (lv_args 0 As) [] h nx 0 0) : Runs l G i_X11_read mc ms As h nx Post := Runs.of' sg_X11_read ck_X11_read rfl pl_RX11 hX stops f hlen hr
abbrev i_X11_place : Nat := 144
theorem sg_X11_place : sg i_X11_place = s_X11_place := rfl
theorem en_X11_place {l : Launch} {G : GG} {mc ms : Nat} {As : List Value} {h : AH} {nx : Nat} {Post : Option Value → AH → Nat → Prop} (hX : XC G ∧ TX l G) (stops : List Nat) (f : Nat) (hlen : Nat.ble (lg_sl As).length 1 = true) (hr : run l G 11 s_X11_place e_X11_place mc ms Post stops f 0 (lv_args 0 As) [] h nx 0 0) : Runs l G i_X11_place mc ms As h nx Post := Runs.of' sg_X11_place ck_X11_place rfl pl_RX11 hX stops f hlen hr
abbrev i_X11_use : Nat := 145
theorem sg_X11_use : sg i_X11_use = s_X11_use := rfl
theorem en_X11_use {l : Launch} {G : GG} {mc ms : Nat} {As : List Value} {h : AH} {nx : Nat} {Post : Option Value → AH → Nat → Prop} (hX : XC G ∧ TX l G) (stops : List Nat) (f : Nat) (hlen : Nat.ble (lg_sl As).length 2 = true) (hr : run l G 11 s_X11_use e_X11_use mc ms Post stops f 0 (lv_args 0 As) [] h nx 0 0) : Runs l G i_X11_use mc ms As h nx Post := Runs.of' sg_X11_use ck_X11_use rfl pl_RX11 hX stops f hlen hr
abbrev i_X11_takeToHand : Nat := 146
theorem sg_X11_takeToHand : sg i_X11_takeToHand = s_X11_takeToHand := rfl
theorem en_X11_takeToHand {l : Launch} {G : GG} {mc ms : Nat} {As : List Value} {h : AH} {nx : Nat} {Post : Option Value → AH → Nat → Prop} (hX : XC G ∧ TX l G) (stops : List Nat) (f : Nat) (hlen : Nat.ble (lg_sl As).length 2 = true) (hr : run l G 11 s_X11_takeToHand e_X11_takeToHand mc ms Post stops f 0 (lv_args 0 As) [] h nx 0 0) : Runs l G i_X11_takeToHand mc ms As h nx Post := Runs.of' sg_X11_takeToHand ck_X11_takeToHand rfl pl_RX11 hX stops f hlen hr
abbrev i_X11_isDrawing : Nat := 147
theorem sg_X11_isDrawing : sg i_X11_isDrawing = s_X11_isDrawing := rfl
theorem en_X11_isDrawing {l : Launch} {G : GG} {mc ms : Nat} {As : List Value} {h : AH} {nx : Nat} {Post : Option Value → AH → Nat → Prop} (hX : XC G ∧ TX l G) (stops : List Nat) (f : Nat) (hlen : Nat.ble (lg_sl As).length 2 = true) (hr : run l G 11 s_X11_isDrawing e_X11_isDrawing mc ms Post stops f 0 (lv_args 0 As) [] h nx 0 0) : Runs l G i_X11_isDrawing mc ms As h nx Post := Runs.of' sg_X11_isDrawing ck_X11_isDrawing rfl pl_RX11 hX stops f hlen hr
abbrev i_X11_drawingOf : Nat := 148
theorem sg_X11_drawingOf : sg i_X11_drawingOf = s_X11_drawingOf := rfl
theorem en_X11_drawingOf {l : Launch} {G : GG} {mc ms : Nat} {As : List Value} {h : AH} {nx : Nat} {Post : Option Value → AH → Nat → Prop} (hX : XC G ∧ TX l G) (stops : List Nat) (f : Nat) (hlen : Nat.ble (lg_sl As).length 2 = true) (hr : run l G 11 s_X11_drawingOf e_X11_drawingOf mc ms Post stops f 0 (lv_args 0 As) [] h nx 0 0) : Runs l G i_X11_drawingOf mc ms As h nx Post := Runs.of' sg_X11_drawingOf ck_X11_drawingOf rfl pl_RX11 hX stops f hlen hr
abbrev i_X11_current : Nat := 149
theorem sg_X11_current : sg i_X11_current = s_X11_current := rfl
theorem en_X11_current {l : Launch} {G : GG} {mc ms : Nat} {As : List Value} {h : AH} {nx : Nat} {Post : Option Value → AH → Nat → Prop} (hX : XC G ∧ TX l G) (stops : List Nat) (f : Nat) (hlen : Nat.ble (lg_sl As).length 1 = true) (hr : run l G 11 s_X11_current e_X11_current mc ms Post stops f 0 (lv_args 0 As) [] h nx 0 0) : Runs l G i_X11_current mc ms As h nx Post := Runs.of' sg_X11_current ck_X11_current rfl pl_RX11 hX stops f hlen hr
abbrev i_X11_contact : Nat := 150
theorem sg_X11_contact : sg i_X11_contact = s_X11_contact := rfl
theorem en_X11_contact {l : Launch} {G : GG} {mc ms : Nat} {As : List Value} {h : AH} {nx : Nat} {Post : Option Value → AH → Nat → Prop} (hX : XC G ∧ TX l G) (stops : List Nat) (f : Nat) (hlen : Nat.ble (lg_sl As).length 6 = true) (hr : run l G 11 s_X11_contact e_X11_contact mc ms Post stops f 0 (lv_args 0 As) [] h nx 0 0) : Runs l G i_X11_contact mc ms As h nx Post := Runs.of' sg_X11_contact ck_X11_contact rfl pl_RX11 hX stops f hlen hr
abbrev i_X11_flaw : Nat := 151
theorem sg_X11_flaw : sg i_X11_flaw = s_X11_flaw := rfl
theorem en_X11_flaw {l : Launch} {G : GG} {mc ms : Nat} {As : List Value} {h : AH} {nx : Nat} {Post : Option Value → AH → Nat → Prop} (hX : XC G ∧ TX l G) (stops : List Nat) (f : Nat) (hlen : Nat.ble (lg_sl As).length 2 = true) (hr : run l G 11 s_X11_flaw e_X11_flaw mc ms Post stops f 0 (lv_args 0 As) [] h nx 0 0) : Runs l G i_X11_flaw mc ms As h nx Post := Runs.of' sg_X11_flaw ck_X11_flaw rfl pl_RX11 hX stops f hlen hr
abbrev i_X11_takeHut : Nat := 152
theorem sg_X11_takeHut : sg i_X11_takeHut = s_X11_takeHut := rfl
theorem en_X11_takeHut {l : Launch} {G : GG} {mc ms : Nat} {As : List Value} {h : AH} {nx : Nat} {Post : Option Value → AH → Nat → Prop} (hX : XC G ∧ TX l G) (stops : List Nat) (f : Nat) (hlen : Nat.ble (lg_sl As).length 5 = true) (hr : run l G 11 s_X11_takeHut e_X11_takeHut mc ms Post stops f 0 (lv_args 0 As) [] h nx 0 0) : Runs l G i_X11_takeHut mc ms As h nx Post := Runs.of' sg_X11_takeHut ck_X11_takeHut rfl pl_RX11 hX stops f hlen hr
abbrev i_X11_isState : Nat := 153
theorem sg_X11_isState : sg i_X11_isState = s_X11_isState := rfl
theorem en_X11_isState {l : Launch} {G : GG} {mc ms : Nat} {As : List Value} {h : AH} {nx : Nat} {Post : Option Value → AH → Nat → Prop} (hX : XC G ∧ TX l G) (stops : List Nat) (f : Nat) (hlen : Nat.ble (lg_sl As).length 4 = true) (hr : run l G 11 s_X11_isState e_X11_isState mc ms Post stops f 0 (lv_args 0 As) [] h nx 0 0) : Runs l G i_X11_isState mc ms As h nx Post := Runs.of' sg_X11_isState ck_X11_isState rfl pl_RX11 hX stops f hlen hr
abbrev i_X11_settles : Nat := 154
theorem sg_X11_settles : sg i_X11_settles = s_X11_settles := rfl
theorem en_X11_settles {l : Launch} {G : GG} {mc ms : Nat} {As : List Value} {h : AH} {nx : Nat} {Post : Option Value → AH → Nat → Prop} (hX : XC G ∧ TX l G) (stops : List Nat) (f : Nat) (hlen : Nat.ble (lg_sl As).length 5 = true) (hr : run l G 11 s_X11_settles e_X11_settles mc ms Post stops f 0 (lv_args 0 As) [] h nx 0 0) : Runs l G i_X11_settles mc ms As h nx Post := Runs.of' sg_X11_settles ck_X11_settles rfl pl_RX11 hX stops f hlen hr
abbrev i_X11_shows : Nat := 155
theorem sg_X11_shows : sg i_X11_shows = s_X11_shows := rfl
theorem en_X11_shows {l : Launch} {G : GG} {mc ms : Nat} {As : List Value} {h : AH} {nx : Nat} {Post : Option Value → AH → Nat → Prop} (hX : XC G ∧ TX l G) (stops : List Nat) (f : Nat) (hlen : Nat.ble (lg_sl As).length 5 = true) (hr : run l G 11 s_X11_shows e_X11_shows mc ms Post stops f 0 (lv_args 0 As) [] h nx 0 0) : Runs l G i_X11_shows mc ms As h nx Post := Runs.of' sg_X11_shows ck_X11_shows rfl pl_RX11 hX stops f hlen hr
abbrev i_X11_start : Nat := 156
theorem sg_X11_start : sg i_X11_start = s_X11_start := rfl
theorem en_X11_start {l : Launch} {G : GG} {mc ms : Nat} {As : List Value} {h : AH} {nx : Nat} {Post : Option Value → AH → Nat → Prop} (hX : XC G ∧ TX l G) (stops : List Nat) (f : Nat) (hlen : Nat.ble (lg_sl As).length 3 = true) (hr : run l G 11 s_X11_start e_X11_start mc ms Post stops f 0 (lv_args 0 As) [] h nx 0 0) : Runs l G i_X11_start mc ms As h nx Post := Runs.of' sg_X11_start ck_X11_start rfl pl_RX11 hX stops f hlen hr
abbrev i_X11_reached : Nat := 157
theorem sg_X11_reached : sg i_X11_reached = s_X11_reached := rfl
theorem en_X11_reached {l : Launch} {G : GG} {mc ms : Nat} {As : List Value} {h : AH} {nx : Nat} {Post : Option Value → AH → Nat → Prop} (hX : XC G ∧ TX l G) (stops : List Nat) (f : Nat) (hlen : Nat.ble (lg_sl As).length 3 = true) (hr : run l G 11 s_X11_reached e_X11_reached mc ms Post stops f 0 (lv_args 0 As) [] h nx 0 0) : Runs l G i_X11_reached mc ms As h nx Post := Runs.of' sg_X11_reached ck_X11_reached rfl pl_RX11 hX stops f hlen hr
abbrev i_X11_races : Nat := 158
theorem sg_X11_races : sg i_X11_races = s_X11_races := rfl
theorem en_X11_races {l : Launch} {G : GG} {mc ms : Nat} {As : List Value} {h : AH} {nx : Nat} {Post : Option Value → AH → Nat → Prop} (hX : XC G ∧ TX l G) (stops : List Nat) (f : Nat) (hlen : Nat.ble (lg_sl As).length 3 = true) (hr : run l G 11 s_X11_races e_X11_races mc ms Post stops f 0 (lv_args 0 As) [] h nx 0 0) : Runs l G i_X11_races mc ms As h nx Post := Runs.of' sg_X11_races ck_X11_races rfl pl_RX11 hX stops f hlen hr
abbrev i_X11_bad : Nat := 159
theorem sg_X11_bad : sg i_X11_bad = s_X11_bad := rfl
theorem en_X11_bad {l : Launch} {G : GG} {mc ms : Nat} {As : List Value} {h : AH} {nx : Nat} {Post : Option Value → AH → Nat → Prop} (hX : XC G ∧ TX l G) (stops : List Nat) (f : Nat) (hlen : Nat.ble (lg_sl As).length 3 = true) (hr : run l G 11 s_X11_bad e_X11_bad mc ms Post stops f 0 (lv_args 0 As) [] h nx 0 0) : Runs l G i_X11_bad mc ms As h nx Post := Runs.of' sg_X11_bad ck_X11_bad rfl pl_RX11 hX stops f hlen hr
abbrev i_X11_badAct : Nat := 160
theorem sg_X11_badAct : sg i_X11_badAct = s_X11_badAct := rfl
theorem en_X11_badAct {l : Launch} {G : GG} {mc ms : Nat} {As : List Value} {h : AH} {nx : Nat} {Post : Option Value → AH → Nat → Prop} (hX : XC G ∧ TX l G) (stops : List Nat) (f : Nat) (hlen : Nat.ble (lg_sl As).length 4 = true) (hr : run l G 11 s_X11_badAct e_X11_badAct mc ms Post stops f 0 (lv_args 0 As) [] h nx 0 0) : Runs l G i_X11_badAct mc ms As h nx Post := Runs.of' sg_X11_badAct ck_X11_badAct rfl pl_RX11 hX stops f hlen hr
abbrev i_X11_singles : Nat := 161
theorem sg_X11_singles : sg i_X11_singles = s_X11_singles := rfl
theorem en_X11_singles {l : Launch} {G : GG} {mc ms : Nat} {As : List Value} {h : AH} {nx : Nat} {Post : Option Value → AH → Nat → Prop} (hX : XC G ∧ TX l G) (stops : List Nat) (f : Nat) (hlen : Nat.ble (lg_sl As).length 1 = true) (hr : run l G 11 s_X11_singles e_X11_singles mc ms Post stops f 0 (lv_args 0 As) [] h nx 0 0) : Runs l G i_X11_singles mc ms As h nx Post := Runs.of' sg_X11_singles ck_X11_singles rfl pl_RX11 hX stops f hlen hr
abbrev i_X11_pairs : Nat := 162
theorem sg_X11_pairs : sg i_X11_pairs = s_X11_pairs := rfl
theorem en_X11_pairs {l : Launch} {G : GG} {mc ms : Nat} {As : List Value} {h : AH} {nx : Nat} {Post : Option Value → AH → Nat → Prop} (hX : XC G ∧ TX l G) (stops : List Nat) (f : Nat) (hlen : Nat.ble (lg_sl As).length 3 = true) (hr : run l G 11 s_X11_pairs e_X11_pairs mc ms Post stops f 0 (lv_args 0 As) [] h nx 0 0) : Runs l G i_X11_pairs mc ms As h nx Post := Runs.of' sg_X11_pairs ck_X11_pairs rfl pl_RX11 hX stops f hlen hr
abbrev i_X11_pair : Nat := 163
theorem sg_X11_pair : sg i_X11_pair = s_X11_pair := rfl
theorem en_X11_pair {l : Launch} {G : GG} {mc ms : Nat} {As : List Value} {h : AH} {nx : Nat} {Post : Option Value → AH → Nat → Prop} (hX : XC G ∧ TX l G) (stops : List Nat) (f : Nat) (hlen : Nat.ble (lg_sl As).length 4 = true) (hr : run l G 11 s_X11_pair e_X11_pair mc ms Post stops f 0 (lv_args 0 As) [] h nx 0 0) : Runs l G i_X11_pair mc ms As h nx Post := Runs.of' sg_X11_pair ck_X11_pair rfl pl_RX11 hX stops f hlen hr
abbrev i_X11_least : Nat := 164
theorem sg_X11_least : sg i_X11_least = s_X11_least := rfl
theorem en_X11_least {l : Launch} {G : GG} {mc ms : Nat} {As : List Value} {h : AH} {nx : Nat} {Post : Option Value → AH → Nat → Prop} (hX : XC G ∧ TX l G) (stops : List Nat) (f : Nat) (hlen : Nat.ble (lg_sl As).length 5 = true) (hr : run l G 11 s_X11_least e_X11_least mc ms Post stops f 0 (lv_args 0 As) [] h nx 0 0) : Runs l G i_X11_least mc ms As h nx Post := Runs.of' sg_X11_least ck_X11_least rfl pl_RX11 hX stops f hlen hr
abbrev i_X11_leastAct : Nat := 165
theorem sg_X11_leastAct : sg i_X11_leastAct = s_X11_leastAct := rfl
theorem en_X11_leastAct {l : Launch} {G : GG} {mc ms : Nat} {As : List Value} {h : AH} {nx : Nat} {Post : Option Value → AH → Nat → Prop} (hX : XC G ∧ TX l G) (stops : List Nat) (f : Nat) (hlen : Nat.ble (lg_sl As).length 4 = true) (hr : run l G 11 s_X11_leastAct e_X11_leastAct mc ms Post stops f 0 (lv_args 0 As) [] h nx 0 0) : Runs l G i_X11_leastAct mc ms As h nx Post := Runs.of' sg_X11_leastAct ck_X11_leastAct rfl pl_RX11 hX stops f hlen hr
abbrev i_X11_hidden : Nat := 166
theorem sg_X11_hidden : sg i_X11_hidden = s_X11_hidden := rfl
theorem en_X11_hidden {l : Launch} {G : GG} {mc ms : Nat} {As : List Value} {h : AH} {nx : Nat} {Post : Option Value → AH → Nat → Prop} (hX : XC G ∧ TX l G) (stops : List Nat) (f : Nat) (hlen : Nat.ble (lg_sl As).length 1 = true) (hr : run l G 11 s_X11_hidden e_X11_hidden mc ms Post stops f 0 (lv_args 0 As) [] h nx 0 0) : Runs l G i_X11_hidden mc ms As h nx Post := Runs.of' sg_X11_hidden ck_X11_hidden rfl pl_RX11 hX stops f hlen hr
abbrev i_X11_suite : Nat := 167
theorem sg_X11_suite : sg i_X11_suite = s_X11_suite := rfl
theorem en_X11_suite {l : Launch} {G : GG} {mc ms : Nat} {As : List Value} {h : AH} {nx : Nat} {Post : Option Value → AH → Nat → Prop} (hX : XC G ∧ TX l G) (stops : List Nat) (f : Nat) (hlen : Nat.ble (lg_sl As).length 1 = true) (hr : run l G 11 s_X11_suite e_X11_suite mc ms Post stops f 0 (lv_args 0 As) [] h nx 0 0) : Runs l G i_X11_suite mc ms As h nx Post := Runs.of' sg_X11_suite ck_X11_suite rfl pl_RX11 hX stops f hlen hr
abbrev i_X11_suiteAct : Nat := 168
theorem sg_X11_suiteAct : sg i_X11_suiteAct = s_X11_suiteAct := rfl
theorem en_X11_suiteAct {l : Launch} {G : GG} {mc ms : Nat} {As : List Value} {h : AH} {nx : Nat} {Post : Option Value → AH → Nat → Prop} (hX : XC G ∧ TX l G) (stops : List Nat) (f : Nat) (hlen : Nat.ble (lg_sl As).length 3 = true) (hr : run l G 11 s_X11_suiteAct e_X11_suiteAct mc ms Post stops f 0 (lv_args 0 As) [] h nx 0 0) : Runs l G i_X11_suiteAct mc ms As h nx Post := Runs.of' sg_X11_suiteAct ck_X11_suiteAct rfl pl_RX11 hX stops f hlen hr
abbrev i_X11_suiteActs : Nat := 169
theorem sg_X11_suiteActs : sg i_X11_suiteActs = s_X11_suiteActs := rfl
theorem en_X11_suiteActs {l : Launch} {G : GG} {mc ms : Nat} {As : List Value} {h : AH} {nx : Nat} {Post : Option Value → AH → Nat → Prop} (hX : XC G ∧ TX l G) (stops : List Nat) (f : Nat) (hlen : Nat.ble (lg_sl As).length 3 = true) (hr : run l G 11 s_X11_suiteActs e_X11_suiteActs mc ms Post stops f 0 (lv_args 0 As) [] h nx 0 0) : Runs l G i_X11_suiteActs mc ms As h nx Post := Runs.of' sg_X11_suiteActs ck_X11_suiteActs rfl pl_RX11 hX stops f hlen hr
abbrev i_X11_unlike : Nat := 170
theorem sg_X11_unlike : sg i_X11_unlike = s_X11_unlike := rfl
theorem en_X11_unlike {l : Launch} {G : GG} {mc ms : Nat} {As : List Value} {h : AH} {nx : Nat} {Post : Option Value → AH → Nat → Prop} (hX : XC G ∧ TX l G) (stops : List Nat) (f : Nat) (hlen : Nat.ble (lg_sl As).length 3 = true) (hr : run l G 11 s_X11_unlike e_X11_unlike mc ms Post stops f 0 (lv_args 0 As) [] h nx 0 0) : Runs l G i_X11_unlike mc ms As h nx Post := Runs.of' sg_X11_unlike ck_X11_unlike rfl pl_RX11 hX stops f hlen hr
abbrev i_X11_safe : Nat := 171
theorem sg_X11_safe : sg i_X11_safe = s_X11_safe := rfl
theorem en_X11_safe {l : Launch} {G : GG} {mc ms : Nat} {As : List Value} {h : AH} {nx : Nat} {Post : Option Value → AH → Nat → Prop} (hX : XC G ∧ TX l G) (stops : List Nat) (f : Nat) (hlen : Nat.ble (lg_sl As).length 5 = true) (hr : run l G 11 s_X11_safe e_X11_safe mc ms Post stops f 0 (lv_args 0 As) [] h nx 0 0) : Runs l G i_X11_safe mc ms As h nx Post := Runs.of' sg_X11_safe ck_X11_safe rfl pl_RX11 hX stops f hlen hr
abbrev i_X11_plan : Nat := 172
theorem sg_X11_plan : sg i_X11_plan = s_X11_plan := rfl
theorem en_X11_plan {l : Launch} {G : GG} {mc ms : Nat} {As : List Value} {h : AH} {nx : Nat} {Post : Option Value → AH → Nat → Prop} (hX : XC G ∧ TX l G) (stops : List Nat) (f : Nat) (hlen : Nat.ble (lg_sl As).length 5 = true) (hr : run l G 11 s_X11_plan e_X11_plan mc ms Post stops f 0 (lv_args 0 As) [] h nx 0 0) : Runs l G i_X11_plan mc ms As h nx Post := Runs.of' sg_X11_plan ck_X11_plan rfl pl_RX11 hX stops f hlen hr
abbrev i_X11_stage : Nat := 173
theorem sg_X11_stage : sg i_X11_stage = s_X11_stage := rfl
theorem en_X11_stage {l : Launch} {G : GG} {mc ms : Nat} {As : List Value} {h : AH} {nx : Nat} {Post : Option Value → AH → Nat → Prop} (hX : XC G ∧ TX l G) (stops : List Nat) (f : Nat) (hlen : Nat.ble (lg_sl As).length 6 = true) (hr : run l G 11 s_X11_stage e_X11_stage mc ms Post stops f 0 (lv_args 0 As) [] h nx 0 0) : Runs l G i_X11_stage mc ms As h nx Post := Runs.of' sg_X11_stage ck_X11_stage rfl pl_RX11 hX stops f hlen hr
abbrev i_X11_log : Nat := 174
theorem sg_X11_log : sg i_X11_log = s_X11_log := rfl
theorem en_X11_log {l : Launch} {G : GG} {mc ms : Nat} {As : List Value} {h : AH} {nx : Nat} {Post : Option Value → AH → Nat → Prop} (hX : XC G ∧ TX l G) (stops : List Nat) (f : Nat) (hlen : Nat.ble (lg_sl As).length 4 = true) (hr : run l G 11 s_X11_log e_X11_log mc ms Post stops f 0 (lv_args 0 As) [] h nx 0 0) : Runs l G i_X11_log mc ms As h nx Post := Runs.of' sg_X11_log ck_X11_log rfl pl_RX11 hX stops f hlen hr
abbrev i_X11_annul : Nat := 175
theorem sg_X11_annul : sg i_X11_annul = s_X11_annul := rfl
theorem en_X11_annul {l : Launch} {G : GG} {mc ms : Nat} {As : List Value} {h : AH} {nx : Nat} {Post : Option Value → AH → Nat → Prop} (hX : XC G ∧ TX l G) (stops : List Nat) (f : Nat) (hlen : Nat.ble (lg_sl As).length 2 = true) (hr : run l G 11 s_X11_annul e_X11_annul mc ms Post stops f 0 (lv_args 0 As) [] h nx 0 0) : Runs l G i_X11_annul mc ms As h nx Post := Runs.of' sg_X11_annul ck_X11_annul rfl pl_RX11 hX stops f hlen hr
abbrev i_X11_fits : Nat := 176
theorem sg_X11_fits : sg i_X11_fits = s_X11_fits := rfl
theorem en_X11_fits {l : Launch} {G : GG} {mc ms : Nat} {As : List Value} {h : AH} {nx : Nat} {Post : Option Value → AH → Nat → Prop} (hX : XC G ∧ TX l G) (stops : List Nat) (f : Nat) (hlen : Nat.ble (lg_sl As).length 4 = true) (hr : run l G 11 s_X11_fits e_X11_fits mc ms Post stops f 0 (lv_args 0 As) [] h nx 0 0) : Runs l G i_X11_fits mc ms As h nx Post := Runs.of' sg_X11_fits ck_X11_fits rfl pl_RX11 hX stops f hlen hr
abbrev i_X11_suspects : Nat := 177
theorem sg_X11_suspects : sg i_X11_suspects = s_X11_suspects := rfl
theorem en_X11_suspects {l : Launch} {G : GG} {mc ms : Nat} {As : List Value} {h : AH} {nx : Nat} {Post : Option Value → AH → Nat → Prop} (hX : XC G ∧ TX l G) (stops : List Nat) (f : Nat) (hlen : Nat.ble (lg_sl As).length 2 = true) (hr : run l G 11 s_X11_suspects e_X11_suspects mc ms Post stops f 0 (lv_args 0 As) [] h nx 0 0) : Runs l G i_X11_suspects mc ms As h nx Post := Runs.of' sg_X11_suspects ck_X11_suspects rfl pl_RX11 hX stops f hlen hr
abbrev i_X11_next : Nat := 178
theorem sg_X11_next : sg i_X11_next = s_X11_next := rfl
theorem en_X11_next {l : Launch} {G : GG} {mc ms : Nat} {As : List Value} {h : AH} {nx : Nat} {Post : Option Value → AH → Nat → Prop} (hX : XC G ∧ TX l G) (stops : List Nat) (f : Nat) (hlen : Nat.ble (lg_sl As).length 2 = true) (hr : run l G 11 s_X11_next e_X11_next mc ms Post stops f 0 (lv_args 0 As) [] h nx 0 0) : Runs l G i_X11_next mc ms As h nx Post := Runs.of' sg_X11_next ck_X11_next rfl pl_RX11 hX stops f hlen hr
abbrev i_X11_set : Nat := 179
theorem sg_X11_set : sg i_X11_set = s_X11_set := rfl
theorem en_X11_set {l : Launch} {G : GG} {mc ms : Nat} {As : List Value} {h : AH} {nx : Nat} {Post : Option Value → AH → Nat → Prop} (hX : XC G ∧ TX l G) (stops : List Nat) (f : Nat) (hlen : Nat.ble (lg_sl As).length 3 = true) (hr : run l G 11 s_X11_set e_X11_set mc ms Post stops f 0 (lv_args 0 As) [] h nx 0 0) : Runs l G i_X11_set mc ms As h nx Post := Runs.of' sg_X11_set ck_X11_set rfl pl_RX11 hX stops f hlen hr
abbrev i_X11_strap : Nat := 180
theorem sg_X11_strap : sg i_X11_strap = s_X11_strap := rfl
theorem en_X11_strap {l : Launch} {G : GG} {mc ms : Nat} {As : List Value} {h : AH} {nx : Nat} {Post : Option Value → AH → Nat → Prop} (hX : XC G ∧ TX l G) (stops : List Nat) (f : Nat) (hlen : Nat.ble (lg_sl As).length 3 = true) (hr : run l G 11 s_X11_strap e_X11_strap mc ms Post stops f 0 (lv_args 0 As) [] h nx 0 0) : Runs l G i_X11_strap mc ms As h nx Post := Runs.of' sg_X11_strap ck_X11_strap rfl pl_RX11 hX stops f hlen hr
abbrev i_X11_age : Nat := 181
theorem sg_X11_age : sg i_X11_age = s_X11_age := rfl
theorem en_X11_age {l : Launch} {G : GG} {mc ms : Nat} {As : List Value} {h : AH} {nx : Nat} {Post : Option Value → AH → Nat → Prop} (hX : XC G ∧ TX l G) (stops : List Nat) (f : Nat) (hlen : Nat.ble (lg_sl As).length 3 = true) (hr : run l G 11 s_X11_age e_X11_age mc ms Post stops f 0 (lv_args 0 As) [] h nx 0 0) : Runs l G i_X11_age mc ms As h nx Post := Runs.of' sg_X11_age ck_X11_age rfl pl_RX11 hX stops f hlen hr
abbrev i_X11_round : Nat := 182
theorem sg_X11_round : sg i_X11_round = s_X11_round := rfl
theorem en_X11_round {l : Launch} {G : GG} {mc ms : Nat} {As : List Value} {h : AH} {nx : Nat} {Post : Option Value → AH → Nat → Prop} (hX : XC G ∧ TX l G) (stops : List Nat) (f : Nat) (hlen : Nat.ble (lg_sl As).length 1 = true) (hr : run l G 11 s_X11_round e_X11_round mc ms Post stops f 0 (lv_args 0 As) [] h nx 0 0) : Runs l G i_X11_round mc ms As h nx Post := Runs.of' sg_X11_round ck_X11_round rfl pl_RX11 hX stops f hlen hr
abbrev i_X11_clash : Nat := 183
theorem sg_X11_clash : sg i_X11_clash = s_X11_clash := rfl
theorem en_X11_clash {l : Launch} {G : GG} {mc ms : Nat} {As : List Value} {h : AH} {nx : Nat} {Post : Option Value → AH → Nat → Prop} (hX : XC G ∧ TX l G) (stops : List Nat) (f : Nat) (hlen : Nat.ble (lg_sl As).length 1 = true) (hr : run l G 11 s_X11_clash e_X11_clash mc ms Post stops f 0 (lv_args 0 As) [] h nx 0 0) : Runs l G i_X11_clash mc ms As h nx Post := Runs.of' sg_X11_clash ck_X11_clash rfl pl_RX11 hX stops f hlen hr
abbrev i_X11_hand : Nat := 184
theorem sg_X11_hand : sg i_X11_hand = s_X11_hand := rfl
theorem en_X11_hand {l : Launch} {G : GG} {mc ms : Nat} {As : List Value} {h : AH} {nx : Nat} {Post : Option Value → AH → Nat → Prop} (hX : XC G ∧ TX l G) (stops : List Nat) (f : Nat) (hlen : Nat.ble (lg_sl As).length 2 = true) (hr : run l G 11 s_X11_hand e_X11_hand mc ms Post stops f 0 (lv_args 0 As) [] h nx 0 0) : Runs l G i_X11_hand mc ms As h nx Post := Runs.of' sg_X11_hand ck_X11_hand rfl pl_RX11 hX stops f hlen hr
abbrev i_X11_count : Nat := 185
theorem sg_X11_count : sg i_X11_count = s_X11_count := rfl
theorem en_X11_count {l : Launch} {G : GG} {mc ms : Nat} {As : List Value} {h : AH} {nx : Nat} {Post : Option Value → AH → Nat → Prop} (hX : XC G ∧ TX l G) (stops : List Nat) (f : Nat) (hlen : Nat.ble (lg_sl As).length 3 = true) (hr : run l G 11 s_X11_count e_X11_count mc ms Post stops f 0 (lv_args 0 As) [] h nx 0 0) : Runs l G i_X11_count mc ms As h nx Post := Runs.of' sg_X11_count ck_X11_count rfl pl_RX11 hX stops f hlen hr
abbrev i_X11_wordOf : Nat := 186
theorem sg_X11_wordOf : sg i_X11_wordOf = s_X11_wordOf := rfl
theorem en_X11_wordOf {l : Launch} {G : GG} {mc ms : Nat} {As : List Value} {h : AH} {nx : Nat} {Post : Option Value → AH → Nat → Prop} (hX : XC G ∧ TX l G) (stops : List Nat) (f : Nat) (hlen : Nat.ble (lg_sl As).length 2 = true) (hr : run l G 11 s_X11_wordOf e_X11_wordOf mc ms Post stops f 0 (lv_args 0 As) [] h nx 0 0) : Runs l G i_X11_wordOf mc ms As h nx Post := Runs.of' sg_X11_wordOf ck_X11_wordOf rfl pl_RX11 hX stops f hlen hr
abbrev i_X12_init : Nat := 187
theorem sg_X12_init : sg i_X12_init = s_X12_init := rfl
theorem en_X12_init {l : Launch} {G : GG} {mc ms : Nat} {As : List Value} {h : AH} {nx : Nat} {Post : Option Value → AH → Nat → Prop} (hX : XC G ∧ TX l G) (stops : List Nat) (f : Nat) (hlen : Nat.ble (lg_sl As).length 1 = true) (hr : run l G 12 s_X12_init e_X12_init mc ms Post stops f 0 (lv_args 0 As) [] h nx 0 0) : Runs l G i_X12_init mc ms As h nx Post := Runs.of' sg_X12_init ck_X12_init rfl pl_RX12 hX stops f hlen hr
abbrev i_X12_feed : Nat := 188
theorem sg_X12_feed : sg i_X12_feed = s_X12_feed := rfl
theorem en_X12_feed {l : Launch} {G : GG} {mc ms : Nat} {As : List Value} {h : AH} {nx : Nat} {Post : Option Value → AH → Nat → Prop} (hX : XC G ∧ TX l G) (stops : List Nat) (f : Nat) (hlen : Nat.ble (lg_sl As).length 6 = true) (hr : run l G 12 s_X12_feed e_X12_feed mc ms Post stops f 0 (lv_args 0 As) [] h nx 0 0) : Runs l G i_X12_feed mc ms As h nx Post := Runs.of' sg_X12_feed ck_X12_feed rfl pl_RX12 hX stops f hlen hr
abbrev i_X12_put : Nat := 189
theorem sg_X12_put : sg i_X12_put = s_X12_put := rfl
theorem en_X12_put {l : Launch} {G : GG} {mc ms : Nat} {As : List Value} {h : AH} {nx : Nat} {Post : Option Value → AH → Nat → Prop} (hX : XC G ∧ TX l G) (stops : List Nat) (f : Nat) (hlen : Nat.ble (lg_sl As).length 3 = true) (hr : run l G 12 s_X12_put e_X12_put mc ms Post stops f 0 (lv_args 0 As) [] h nx 0 0) : Runs l G i_X12_put mc ms As h nx Post := Runs.of' sg_X12_put ck_X12_put rfl pl_RX12 hX stops f hlen hr
abbrev i_X12_back : Nat := 190
theorem sg_X12_back : sg i_X12_back = s_X12_back := rfl
theorem en_X12_back {l : Launch} {G : GG} {mc ms : Nat} {As : List Value} {h : AH} {nx : Nat} {Post : Option Value → AH → Nat → Prop} (hX : XC G ∧ TX l G) (stops : List Nat) (f : Nat) (hlen : Nat.ble (lg_sl As).length 2 = true) (hr : run l G 12 s_X12_back e_X12_back mc ms Post stops f 0 (lv_args 0 As) [] h nx 0 0) : Runs l G i_X12_back mc ms As h nx Post := Runs.of' sg_X12_back ck_X12_back rfl pl_RX12 hX stops f hlen hr
abbrev i_X12_byteAt : Nat := 191
theorem sg_X12_byteAt : sg i_X12_byteAt = s_X12_byteAt := rfl
theorem en_X12_byteAt {l : Launch} {G : GG} {mc ms : Nat} {As : List Value} {h : AH} {nx : Nat} {Post : Option Value → AH → Nat → Prop} (hX : XC G ∧ TX l G) (stops : List Nat) (f : Nat) (hlen : Nat.ble (lg_sl As).length 2 = true) (hr : run l G 12 s_X12_byteAt e_X12_byteAt mc ms Post stops f 0 (lv_args 0 As) [] h nx 0 0) : Runs l G i_X12_byteAt mc ms As h nx Post := Runs.of' sg_X12_byteAt ck_X12_byteAt rfl pl_RX12 hX stops f hlen hr
abbrev i_X12_isDigit : Nat := 192
theorem sg_X12_isDigit : sg i_X12_isDigit = s_X12_isDigit := rfl
theorem en_X12_isDigit {l : Launch} {G : GG} {mc ms : Nat} {As : List Value} {h : AH} {nx : Nat} {Post : Option Value → AH → Nat → Prop} (hX : XC G ∧ TX l G) (stops : List Nat) (f : Nat) (hlen : Nat.ble (lg_sl As).length 1 = true) (hr : run l G 12 s_X12_isDigit e_X12_isDigit mc ms Post stops f 0 (lv_args 0 As) [] h nx 0 0) : Runs l G i_X12_isDigit mc ms As h nx Post := Runs.of' sg_X12_isDigit ck_X12_isDigit rfl pl_RX12 hX stops f hlen hr
abbrev i_X12_isLetter : Nat := 193
theorem sg_X12_isLetter : sg i_X12_isLetter = s_X12_isLetter := rfl
theorem en_X12_isLetter {l : Launch} {G : GG} {mc ms : Nat} {As : List Value} {h : AH} {nx : Nat} {Post : Option Value → AH → Nat → Prop} (hX : XC G ∧ TX l G) (stops : List Nat) (f : Nat) (hlen : Nat.ble (lg_sl As).length 1 = true) (hr : run l G 12 s_X12_isLetter e_X12_isLetter mc ms Post stops f 0 (lv_args 0 As) [] h nx 0 0) : Runs l G i_X12_isLetter mc ms As h nx Post := Runs.of' sg_X12_isLetter ck_X12_isLetter rfl pl_RX12 hX stops f hlen hr
abbrev i_X12_appends : Nat := 194
theorem sg_X12_appends : sg i_X12_appends = s_X12_appends := rfl
theorem en_X12_appends {l : Launch} {G : GG} {mc ms : Nat} {As : List Value} {h : AH} {nx : Nat} {Post : Option Value → AH → Nat → Prop} (hX : XC G ∧ TX l G) (stops : List Nat) (f : Nat) (hlen : Nat.ble (lg_sl As).length 3 = true) (hr : run l G 12 s_X12_appends e_X12_appends mc ms Post stops f 0 (lv_args 0 As) [] h nx 0 0) : Runs l G i_X12_appends mc ms As h nx Post := Runs.of' sg_X12_appends ck_X12_appends rfl pl_RX12 hX stops f hlen hr
abbrev i_X12_word : Nat := 195
theorem sg_X12_word : sg i_X12_word = s_X12_word := rfl
theorem en_X12_word {l : Launch} {G : GG} {mc ms : Nat} {As : List Value} {h : AH} {nx : Nat} {Post : Option Value → AH → Nat → Prop} (hX : XC G ∧ TX l G) (stops : List Nat) (f : Nat) (hlen : Nat.ble (lg_sl As).length 7 = true) (hr : run l G 12 s_X12_word e_X12_word mc ms Post stops f 0 (lv_args 0 As) [] h nx 0 0) : Runs l G i_X12_word mc ms As h nx Post := Runs.of' sg_X12_word ck_X12_word rfl pl_RX12 hX stops f hlen hr
abbrev i_X12_token : Nat := 196
theorem sg_X12_token : sg i_X12_token = s_X12_token := rfl
theorem en_X12_token {l : Launch} {G : GG} {mc ms : Nat} {As : List Value} {h : AH} {nx : Nat} {Post : Option Value → AH → Nat → Prop} (hX : XC G ∧ TX l G) (stops : List Nat) (f : Nat) (hlen : Nat.ble (lg_sl As).length 6 = true) (hr : run l G 12 s_X12_token e_X12_token mc ms Post stops f 0 (lv_args 0 As) [] h nx 0 0) : Runs l G i_X12_token mc ms As h nx Post := Runs.of' sg_X12_token ck_X12_token rfl pl_RX12 hX stops f hlen hr
abbrev i_X12_cut : Nat := 197
theorem sg_X12_cut : sg i_X12_cut = s_X12_cut := rfl
theorem en_X12_cut {l : Launch} {G : GG} {mc ms : Nat} {As : List Value} {h : AH} {nx : Nat} {Post : Option Value → AH → Nat → Prop} (hX : XC G ∧ TX l G) (stops : List Nat) (f : Nat) (hlen : Nat.ble (lg_sl As).length 8 = true) (hr : run l G 12 s_X12_cut e_X12_cut mc ms Post stops f 0 (lv_args 0 As) [] h nx 0 0) : Runs l G i_X12_cut mc ms As h nx Post := Runs.of' sg_X12_cut ck_X12_cut rfl pl_RX12 hX stops f hlen hr
abbrev i_X12_sign : Nat := 198
theorem sg_X12_sign : sg i_X12_sign = s_X12_sign := rfl
theorem en_X12_sign {l : Launch} {G : GG} {mc ms : Nat} {As : List Value} {h : AH} {nx : Nat} {Post : Option Value → AH → Nat → Prop} (hX : XC G ∧ TX l G) (stops : List Nat) (f : Nat) (hlen : Nat.ble (lg_sl As).length 1 = true) (hr : run l G 12 s_X12_sign e_X12_sign mc ms Post stops f 0 (lv_args 0 As) [] h nx 0 0) : Runs l G i_X12_sign mc ms As h nx Post := Runs.of' sg_X12_sign ck_X12_sign rfl pl_RX12 hX stops f hlen hr
abbrev i_X12_is : Nat := 199
theorem sg_X12_is : sg i_X12_is = s_X12_is := rfl
theorem en_X12_is {l : Launch} {G : GG} {mc ms : Nat} {As : List Value} {h : AH} {nx : Nat} {Post : Option Value → AH → Nat → Prop} (hX : XC G ∧ TX l G) (stops : List Nat) (f : Nat) (hlen : Nat.ble (lg_sl As).length 2 = true) (hr : run l G 12 s_X12_is e_X12_is mc ms Post stops f 0 (lv_args 0 As) [] h nx 0 0) : Runs l G i_X12_is mc ms As h nx Post := Runs.of' sg_X12_is ck_X12_is rfl pl_RX12 hX stops f hlen hr
abbrev i_X12_fail : Nat := 200
theorem sg_X12_fail : sg i_X12_fail = s_X12_fail := rfl
theorem en_X12_fail {l : Launch} {G : GG} {mc ms : Nat} {As : List Value} {h : AH} {nx : Nat} {Post : Option Value → AH → Nat → Prop} (hX : XC G ∧ TX l G) (stops : List Nat) (f : Nat) (hlen : Nat.ble (lg_sl As).length 2 = true) (hr : run l G 12 s_X12_fail e_X12_fail mc ms Post stops f 0 (lv_args 0 As) [] h nx 0 0) : Runs l G i_X12_fail mc ms As h nx Post := Runs.of' sg_X12_fail ck_X12_fail rfl pl_RX12 hX stops f hlen hr
abbrev i_X12_wrong : Nat := 201
theorem sg_X12_wrong : sg i_X12_wrong = s_X12_wrong := rfl
theorem en_X12_wrong {l : Launch} {G : GG} {mc ms : Nat} {As : List Value} {h : AH} {nx : Nat} {Post : Option Value → AH → Nat → Prop} (hX : XC G ∧ TX l G) (stops : List Nat) (f : Nat) (hlen : Nat.ble (lg_sl As).length 4 = true) (hr : run l G 12 s_X12_wrong e_X12_wrong mc ms Post stops f 0 (lv_args 0 As) [] h nx 0 0) : Runs l G i_X12_wrong mc ms As h nx Post := Runs.of' sg_X12_wrong ck_X12_wrong rfl pl_RX12 hX stops f hlen hr
abbrev i_X12_goesOn : Nat := 202
theorem sg_X12_goesOn : sg i_X12_goesOn = s_X12_goesOn := rfl
theorem en_X12_goesOn {l : Launch} {G : GG} {mc ms : Nat} {As : List Value} {h : AH} {nx : Nat} {Post : Option Value → AH → Nat → Prop} (hX : XC G ∧ TX l G) (stops : List Nat) (f : Nat) (hlen : Nat.ble (lg_sl As).length 1 = true) (hr : run l G 12 s_X12_goesOn e_X12_goesOn mc ms Post stops f 0 (lv_args 0 As) [] h nx 0 0) : Runs l G i_X12_goesOn mc ms As h nx Post := Runs.of' sg_X12_goesOn ck_X12_goesOn rfl pl_RX12 hX stops f hlen hr
abbrev i_X12_must : Nat := 203
theorem sg_X12_must : sg i_X12_must = s_X12_must := rfl
theorem en_X12_must {l : Launch} {G : GG} {mc ms : Nat} {As : List Value} {h : AH} {nx : Nat} {Post : Option Value → AH → Nat → Prop} (hX : XC G ∧ TX l G) (stops : List Nat) (f : Nat) (hlen : Nat.ble (lg_sl As).length 2 = true) (hr : run l G 12 s_X12_must e_X12_must mc ms Post stops f 0 (lv_args 0 As) [] h nx 0 0) : Runs l G i_X12_must mc ms As h nx Post := Runs.of' sg_X12_must ck_X12_must rfl pl_RX12 hX stops f hlen hr
abbrev i_X12_read : Nat := 204
theorem sg_X12_read : sg i_X12_read = s_X12_read := rfl
theorem en_X12_read {l : Launch} {G : GG} {mc ms : Nat} {As : List Value} {h : AH} {nx : Nat} {Post : Option Value → AH → Nat → Prop} (hX : XC G ∧ TX l G) (stops : List Nat) (f : Nat) (hlen : Nat.ble (lg_sl As).length 2 = true) (hr : run l G 12 s_X12_read e_X12_read mc ms Post stops f 0 (lv_args 0 As) [] h nx 0 0) : Runs l G i_X12_read mc ms As h nx Post := Runs.of' sg_X12_read ck_X12_read rfl pl_RX12 hX stops f hlen hr
abbrev i_X12_place : Nat := 205
theorem sg_X12_place : sg i_X12_place = s_X12_place := rfl
theorem en_X12_place {l : Launch} {G : GG} {mc ms : Nat} {As : List Value} {h : AH} {nx : Nat} {Post : Option Value → AH → Nat → Prop} (hX : XC G ∧ TX l G) (stops : List Nat) (f : Nat) (hlen : Nat.ble (lg_sl As).length 1 = true) (hr : run l G 12 s_X12_place e_X12_place mc ms Post stops f 0 (lv_args 0 As) [] h nx 0 0) : Runs l G i_X12_place mc ms As h nx Post := Runs.of' sg_X12_place ck_X12_place rfl pl_RX12 hX stops f hlen hr
abbrev i_X12_tell : Nat := 206
theorem sg_X12_tell : sg i_X12_tell = s_X12_tell := rfl
theorem en_X12_tell {l : Launch} {G : GG} {mc ms : Nat} {As : List Value} {h : AH} {nx : Nat} {Post : Option Value → AH → Nat → Prop} (hX : XC G ∧ TX l G) (stops : List Nat) (f : Nat) (hlen : Nat.ble (lg_sl As).length 1 = true) (hr : run l G 12 s_X12_tell e_X12_tell mc ms Post stops f 0 (lv_args 0 As) [] h nx 0 0) : Runs l G i_X12_tell mc ms As h nx Post := Runs.of' sg_X12_tell ck_X12_tell rfl pl_RX12 hX stops f hlen hr
abbrev i_X12_inputNamed : Nat := 207
theorem sg_X12_inputNamed : sg i_X12_inputNamed = s_X12_inputNamed := rfl
theorem en_X12_inputNamed {l : Launch} {G : GG} {mc ms : Nat} {As : List Value} {h : AH} {nx : Nat} {Post : Option Value → AH → Nat → Prop} (hX : XC G ∧ TX l G) (stops : List Nat) (f : Nat) (hlen : Nat.ble (lg_sl As).length 5 = true) (hr : run l G 12 s_X12_inputNamed e_X12_inputNamed mc ms Post stops f 0 (lv_args 0 As) [] h nx 0 0) : Runs l G i_X12_inputNamed mc ms As h nx Post := Runs.of' sg_X12_inputNamed ck_X12_inputNamed rfl pl_RX12 hX stops f hlen hr
abbrev i_X12_relayNamed : Nat := 208
theorem sg_X12_relayNamed : sg i_X12_relayNamed = s_X12_relayNamed := rfl
theorem en_X12_relayNamed {l : Launch} {G : GG} {mc ms : Nat} {As : List Value} {h : AH} {nx : Nat} {Post : Option Value → AH → Nat → Prop} (hX : XC G ∧ TX l G) (stops : List Nat) (f : Nat) (hlen : Nat.ble (lg_sl As).length 5 = true) (hr : run l G 12 s_X12_relayNamed e_X12_relayNamed mc ms Post stops f 0 (lv_args 0 As) [] h nx 0 0) : Runs l G i_X12_relayNamed mc ms As h nx Post := Runs.of' sg_X12_relayNamed ck_X12_relayNamed rfl pl_RX12 hX stops f hlen hr
abbrev i_X12_lampNamed : Nat := 209
theorem sg_X12_lampNamed : sg i_X12_lampNamed = s_X12_lampNamed := rfl
theorem en_X12_lampNamed {l : Launch} {G : GG} {mc ms : Nat} {As : List Value} {h : AH} {nx : Nat} {Post : Option Value → AH → Nat → Prop} (hX : XC G ∧ TX l G) (stops : List Nat) (f : Nat) (hlen : Nat.ble (lg_sl As).length 5 = true) (hr : run l G 12 s_X12_lampNamed e_X12_lampNamed mc ms Post stops f 0 (lv_args 0 As) [] h nx 0 0) : Runs l G i_X12_lampNamed mc ms As h nx Post := Runs.of' sg_X12_lampNamed ck_X12_lampNamed rfl pl_RX12 hX stops f hlen hr
abbrev i_X12_named : Nat := 210
theorem sg_X12_named : sg i_X12_named = s_X12_named := rfl
theorem en_X12_named {l : Launch} {G : GG} {mc ms : Nat} {As : List Value} {h : AH} {nx : Nat} {Post : Option Value → AH → Nat → Prop} (hX : XC G ∧ TX l G) (stops : List Nat) (f : Nat) (hlen : Nat.ble (lg_sl As).length 4 = true) (hr : run l G 12 s_X12_named e_X12_named mc ms Post stops f 0 (lv_args 0 As) [] h nx 0 0) : Runs l G i_X12_named mc ms As h nx Post := Runs.of' sg_X12_named ck_X12_named rfl pl_RX12 hX stops f hlen hr
abbrev i_X12_tellInput : Nat := 211
theorem sg_X12_tellInput : sg i_X12_tellInput = s_X12_tellInput := rfl
theorem en_X12_tellInput {l : Launch} {G : GG} {mc ms : Nat} {As : List Value} {h : AH} {nx : Nat} {Post : Option Value → AH → Nat → Prop} (hX : XC G ∧ TX l G) (stops : List Nat) (f : Nat) (hlen : Nat.ble (lg_sl As).length 4 = true) (hr : run l G 12 s_X12_tellInput e_X12_tellInput mc ms Post stops f 0 (lv_args 0 As) [] h nx 0 0) : Runs l G i_X12_tellInput mc ms As h nx Post := Runs.of' sg_X12_tellInput ck_X12_tellInput rfl pl_RX12 hX stops f hlen hr
abbrev i_X12_tellRelay : Nat := 212
theorem sg_X12_tellRelay : sg i_X12_tellRelay = s_X12_tellRelay := rfl
theorem en_X12_tellRelay {l : Launch} {G : GG} {mc ms : Nat} {As : List Value} {h : AH} {nx : Nat} {Post : Option Value → AH → Nat → Prop} (hX : XC G ∧ TX l G) (stops : List Nat) (f : Nat) (hlen : Nat.ble (lg_sl As).length 4 = true) (hr : run l G 12 s_X12_tellRelay e_X12_tellRelay mc ms Post stops f 0 (lv_args 0 As) [] h nx 0 0) : Runs l G i_X12_tellRelay mc ms As h nx Post := Runs.of' sg_X12_tellRelay ck_X12_tellRelay rfl pl_RX12 hX stops f hlen hr
abbrev i_X12_tellLamp : Nat := 213
theorem sg_X12_tellLamp : sg i_X12_tellLamp = s_X12_tellLamp := rfl
theorem en_X12_tellLamp {l : Launch} {G : GG} {mc ms : Nat} {As : List Value} {h : AH} {nx : Nat} {Post : Option Value → AH → Nat → Prop} (hX : XC G ∧ TX l G) (stops : List Nat) (f : Nat) (hlen : Nat.ble (lg_sl As).length 4 = true) (hr : run l G 12 s_X12_tellLamp e_X12_tellLamp mc ms Post stops f 0 (lv_args 0 As) [] h nx 0 0) : Runs l G i_X12_tellLamp mc ms As h nx Post := Runs.of' sg_X12_tellLamp ck_X12_tellLamp rfl pl_RX12 hX stops f hlen hr
abbrev i_X12_tellNever : Nat := 214
theorem sg_X12_tellNever : sg i_X12_tellNever = s_X12_tellNever := rfl
theorem en_X12_tellNever {l : Launch} {G : GG} {mc ms : Nat} {As : List Value} {h : AH} {nx : Nat} {Post : Option Value → AH → Nat → Prop} (hX : XC G ∧ TX l G) (stops : List Nat) (f : Nat) (hlen : Nat.ble (lg_sl As).length 4 = true) (hr : run l G 12 s_X12_tellNever e_X12_tellNever mc ms Post stops f 0 (lv_args 0 As) [] h nx 0 0) : Runs l G i_X12_tellNever mc ms As h nx Post := Runs.of' sg_X12_tellNever ck_X12_tellNever rfl pl_RX12 hX stops f hlen hr
abbrev i_X12_emit : Nat := 215
theorem sg_X12_emit : sg i_X12_emit = s_X12_emit := rfl
theorem en_X12_emit {l : Launch} {G : GG} {mc ms : Nat} {As : List Value} {h : AH} {nx : Nat} {Post : Option Value → AH → Nat → Prop} (hX : XC G ∧ TX l G) (stops : List Nat) (f : Nat) (hlen : Nat.ble (lg_sl As).length 2 = true) (hr : run l G 12 s_X12_emit e_X12_emit mc ms Post stops f 0 (lv_args 0 As) [] h nx 0 0) : Runs l G i_X12_emit mc ms As h nx Post := Runs.of' sg_X12_emit ck_X12_emit rfl pl_RX12 hX stops f hlen hr
abbrev i_X12_waitsOn : Nat := 216
theorem sg_X12_waitsOn : sg i_X12_waitsOn = s_X12_waitsOn := rfl
theorem en_X12_waitsOn {l : Launch} {G : GG} {mc ms : Nat} {As : List Value} {h : AH} {nx : Nat} {Post : Option Value → AH → Nat → Prop} (hX : XC G ∧ TX l G) (stops : List Nat) (f : Nat) (hlen : Nat.ble (lg_sl As).length 2 = true) (hr : run l G 12 s_X12_waitsOn e_X12_waitsOn mc ms Post stops f 0 (lv_args 0 As) [] h nx 0 0) : Runs l G i_X12_waitsOn mc ms As h nx Post := Runs.of' sg_X12_waitsOn ck_X12_waitsOn rfl pl_RX12 hX stops f hlen hr
abbrev i_X12_circuit : Nat := 217
theorem sg_X12_circuit : sg i_X12_circuit = s_X12_circuit := rfl
theorem en_X12_circuit {l : Launch} {G : GG} {mc ms : Nat} {As : List Value} {h : AH} {nx : Nat} {Post : Option Value → AH → Nat → Prop} (hX : XC G ∧ TX l G) (stops : List Nat) (f : Nat) (hlen : Nat.ble (lg_sl As).length 7 = true) (hr : run l G 12 s_X12_circuit e_X12_circuit mc ms Post stops f 0 (lv_args 0 As) [] h nx 0 0) : Runs l G i_X12_circuit mc ms As h nx Post := Runs.of' sg_X12_circuit ck_X12_circuit rfl pl_RX12 hX stops f hlen hr
abbrev i_X12_unit : Nat := 218
theorem sg_X12_unit : sg i_X12_unit = s_X12_unit := rfl
theorem en_X12_unit {l : Launch} {G : GG} {mc ms : Nat} {As : List Value} {h : AH} {nx : Nat} {Post : Option Value → AH → Nat → Prop} (hX : XC G ∧ TX l G) (stops : List Nat) (f : Nat) (hlen : Nat.ble (lg_sl As).length 4 = true) (hr : run l G 12 s_X12_unit e_X12_unit mc ms Post stops f 0 (lv_args 0 As) [] h nx 0 0) : Runs l G i_X12_unit mc ms As h nx Post := Runs.of' sg_X12_unit ck_X12_unit rfl pl_RX12 hX stops f hlen hr
abbrev i_X12_goes : Nat := 219
theorem sg_X12_goes : sg i_X12_goes = s_X12_goes := rfl
theorem en_X12_goes {l : Launch} {G : GG} {mc ms : Nat} {As : List Value} {h : AH} {nx : Nat} {Post : Option Value → AH → Nat → Prop} (hX : XC G ∧ TX l G) (stops : List Nat) (f : Nat) (hlen : Nat.ble (lg_sl As).length 1 = true) (hr : run l G 12 s_X12_goes e_X12_goes mc ms Post stops f 0 (lv_args 0 As) [] h nx 0 0) : Runs l G i_X12_goes mc ms As h nx Post := Runs.of' sg_X12_goes ck_X12_goes rfl pl_RX12 hX stops f hlen hr
abbrev i_X12_thingNamed : Nat := 220
theorem sg_X12_thingNamed : sg i_X12_thingNamed = s_X12_thingNamed := rfl
theorem en_X12_thingNamed {l : Launch} {G : GG} {mc ms : Nat} {As : List Value} {h : AH} {nx : Nat} {Post : Option Value → AH → Nat → Prop} (hX : XC G ∧ TX l G) (stops : List Nat) (f : Nat) (hlen : Nat.ble (lg_sl As).length 3 = true) (hr : run l G 12 s_X12_thingNamed e_X12_thingNamed mc ms Post stops f 0 (lv_args 0 As) [] h nx 0 0) : Runs l G i_X12_thingNamed mc ms As h nx Post := Runs.of' sg_X12_thingNamed ck_X12_thingNamed rfl pl_RX12 hX stops f hlen hr
abbrev i_X12_knows : Nat := 221
theorem sg_X12_knows : sg i_X12_knows = s_X12_knows := rfl
theorem en_X12_knows {l : Launch} {G : GG} {mc ms : Nat} {As : List Value} {h : AH} {nx : Nat} {Post : Option Value → AH → Nat → Prop} (hX : XC G ∧ TX l G) (stops : List Nat) (f : Nat) (hlen : Nat.ble (lg_sl As).length 3 = true) (hr : run l G 12 s_X12_knows e_X12_knows mc ms Post stops f 0 (lv_args 0 As) [] h nx 0 0) : Runs l G i_X12_knows mc ms As h nx Post := Runs.of' sg_X12_knows ck_X12_knows rfl pl_RX12 hX stops f hlen hr
abbrev i_X12_in : Nat := 222
theorem sg_X12_in : sg i_X12_in = s_X12_in := rfl
theorem en_X12_in {l : Launch} {G : GG} {mc ms : Nat} {As : List Value} {h : AH} {nx : Nat} {Post : Option Value → AH → Nat → Prop} (hX : XC G ∧ TX l G) (stops : List Nat) (f : Nat) (hlen : Nat.ble (lg_sl As).length 3 = true) (hr : run l G 12 s_X12_in e_X12_in mc ms Post stops f 0 (lv_args 0 As) [] h nx 0 0) : Runs l G i_X12_in mc ms As h nx Post := Runs.of' sg_X12_in ck_X12_in rfl pl_RX12 hX stops f hlen hr
abbrev i_X12_isDrawing : Nat := 223
theorem sg_X12_isDrawing : sg i_X12_isDrawing = s_X12_isDrawing := rfl
theorem en_X12_isDrawing {l : Launch} {G : GG} {mc ms : Nat} {As : List Value} {h : AH} {nx : Nat} {Post : Option Value → AH → Nat → Prop} (hX : XC G ∧ TX l G) (stops : List Nat) (f : Nat) (hlen : Nat.ble (lg_sl As).length 2 = true) (hr : run l G 12 s_X12_isDrawing e_X12_isDrawing mc ms Post stops f 0 (lv_args 0 As) [] h nx 0 0) : Runs l G i_X12_isDrawing mc ms As h nx Post := Runs.of' sg_X12_isDrawing ck_X12_isDrawing rfl pl_RX12 hX stops f hlen hr
abbrev i_X12_comes : Nat := 224
theorem sg_X12_comes : sg i_X12_comes = s_X12_comes := rfl
theorem en_X12_comes {l : Launch} {G : GG} {mc ms : Nat} {As : List Value} {h : AH} {nx : Nat} {Post : Option Value → AH → Nat → Prop} (hX : XC G ∧ TX l G) (stops : List Nat) (f : Nat) (hlen : Nat.ble (lg_sl As).length 3 = true) (hr : run l G 12 s_X12_comes e_X12_comes mc ms Post stops f 0 (lv_args 0 As) [] h nx 0 0) : Runs l G i_X12_comes mc ms As h nx Post := Runs.of' sg_X12_comes ck_X12_comes rfl pl_RX12 hX stops f hlen hr
abbrev i_X12_use : Nat := 225
theorem sg_X12_use : sg i_X12_use = s_X12_use := rfl
theorem en_X12_use {l : Launch} {G : GG} {mc ms : Nat} {As : List Value} {h : AH} {nx : Nat} {Post : Option Value → AH → Nat → Prop} (hX : XC G ∧ TX l G) (stops : List Nat) (f : Nat) (hlen : Nat.ble (lg_sl As).length 2 = true) (hr : run l G 12 s_X12_use e_X12_use mc ms Post stops f 0 (lv_args 0 As) [] h nx 0 0) : Runs l G i_X12_use mc ms As h nx Post := Runs.of' sg_X12_use ck_X12_use rfl pl_RX12 hX stops f hlen hr
abbrev i_X12_contact : Nat := 226
theorem sg_X12_contact : sg i_X12_contact = s_X12_contact := rfl
theorem en_X12_contact {l : Launch} {G : GG} {mc ms : Nat} {As : List Value} {h : AH} {nx : Nat} {Post : Option Value → AH → Nat → Prop} (hX : XC G ∧ TX l G) (stops : List Nat) (f : Nat) (hlen : Nat.ble (lg_sl As).length 4 = true) (hr : run l G 12 s_X12_contact e_X12_contact mc ms Post stops f 0 (lv_args 0 As) [] h nx 0 0) : Runs l G i_X12_contact mc ms As h nx Post := Runs.of' sg_X12_contact ck_X12_contact rfl pl_RX12 hX stops f hlen hr
abbrev i_X12_isCrossable : Nat := 227
theorem sg_X12_isCrossable : sg i_X12_isCrossable = s_X12_isCrossable := rfl
theorem en_X12_isCrossable {l : Launch} {G : GG} {mc ms : Nat} {As : List Value} {h : AH} {nx : Nat} {Post : Option Value → AH → Nat → Prop} (hX : XC G ∧ TX l G) (stops : List Nat) (f : Nat) (hlen : Nat.ble (lg_sl As).length 2 = true) (hr : run l G 12 s_X12_isCrossable e_X12_isCrossable mc ms Post stops f 0 (lv_args 0 As) [] h nx 0 0) : Runs l G i_X12_isCrossable mc ms As h nx Post := Runs.of' sg_X12_isCrossable ck_X12_isCrossable rfl pl_RX12 hX stops f hlen hr
abbrev i_X12_isFlaw : Nat := 228
theorem sg_X12_isFlaw : sg i_X12_isFlaw = s_X12_isFlaw := rfl
theorem en_X12_isFlaw {l : Launch} {G : GG} {mc ms : Nat} {As : List Value} {h : AH} {nx : Nat} {Post : Option Value → AH → Nat → Prop} (hX : XC G ∧ TX l G) (stops : List Nat) (f : Nat) (hlen : Nat.ble (lg_sl As).length 2 = true) (hr : run l G 12 s_X12_isFlaw e_X12_isFlaw mc ms Post stops f 0 (lv_args 0 As) [] h nx 0 0) : Runs l G i_X12_isFlaw mc ms As h nx Post := Runs.of' sg_X12_isFlaw ck_X12_isFlaw rfl pl_RX12 hX stops f hlen hr
abbrev i_X12_isHut : Nat := 229
theorem sg_X12_isHut : sg i_X12_isHut = s_X12_isHut := rfl
theorem en_X12_isHut {l : Launch} {G : GG} {mc ms : Nat} {As : List Value} {h : AH} {nx : Nat} {Post : Option Value → AH → Nat → Prop} (hX : XC G ∧ TX l G) (stops : List Nat) (f : Nat) (hlen : Nat.ble (lg_sl As).length 3 = true) (hr : run l G 12 s_X12_isHut e_X12_isHut mc ms Post stops f 0 (lv_args 0 As) [] h nx 0 0) : Runs l G i_X12_isHut mc ms As h nx Post := Runs.of' sg_X12_isHut ck_X12_isHut rfl pl_RX12 hX stops f hlen hr
abbrev i_X12_flawsThere : Nat := 230
theorem sg_X12_flawsThere : sg i_X12_flawsThere = s_X12_flawsThere := rfl
theorem en_X12_flawsThere {l : Launch} {G : GG} {mc ms : Nat} {As : List Value} {h : AH} {nx : Nat} {Post : Option Value → AH → Nat → Prop} (hX : XC G ∧ TX l G) (stops : List Nat) (f : Nat) (hlen : Nat.ble (lg_sl As).length 3 = true) (hr : run l G 12 s_X12_flawsThere e_X12_flawsThere mc ms Post stops f 0 (lv_args 0 As) [] h nx 0 0) : Runs l G i_X12_flawsThere mc ms As h nx Post := Runs.of' sg_X12_flawsThere ck_X12_flawsThere rfl pl_RX12 hX stops f hlen hr
abbrev i_X12_flaw : Nat := 231
theorem sg_X12_flaw : sg i_X12_flaw = s_X12_flaw := rfl
theorem en_X12_flaw {l : Launch} {G : GG} {mc ms : Nat} {As : List Value} {h : AH} {nx : Nat} {Post : Option Value → AH → Nat → Prop} (hX : XC G ∧ TX l G) (stops : List Nat) (f : Nat) (hlen : Nat.ble (lg_sl As).length 4 = true) (hr : run l G 12 s_X12_flaw e_X12_flaw mc ms Post stops f 0 (lv_args 0 As) [] h nx 0 0) : Runs l G i_X12_flaw mc ms As h nx Post := Runs.of' sg_X12_flaw ck_X12_flaw rfl pl_RX12 hX stops f hlen hr
abbrev i_X12_isThing : Nat := 232
theorem sg_X12_isThing : sg i_X12_isThing = s_X12_isThing := rfl
theorem en_X12_isThing {l : Launch} {G : GG} {mc ms : Nat} {As : List Value} {h : AH} {nx : Nat} {Post : Option Value → AH → Nat → Prop} (hX : XC G ∧ TX l G) (stops : List Nat) (f : Nat) (hlen : Nat.ble (lg_sl As).length 7 = true) (hr : run l G 12 s_X12_isThing e_X12_isThing mc ms Post stops f 0 (lv_args 0 As) [] h nx 0 0) : Runs l G i_X12_isThing mc ms As h nx Post := Runs.of' sg_X12_isThing ck_X12_isThing rfl pl_RX12 hX stops f hlen hr
abbrev i_X12_isShut : Nat := 233
theorem sg_X12_isShut : sg i_X12_isShut = s_X12_isShut := rfl
theorem en_X12_isShut {l : Launch} {G : GG} {mc ms : Nat} {As : List Value} {h : AH} {nx : Nat} {Post : Option Value → AH → Nat → Prop} (hX : XC G ∧ TX l G) (stops : List Nat) (f : Nat) (hlen : Nat.ble (lg_sl As).length 5 = true) (hr : run l G 12 s_X12_isShut e_X12_isShut mc ms Post stops f 0 (lv_args 0 As) [] h nx 0 0) : Runs l G i_X12_isShut mc ms As h nx Post := Runs.of' sg_X12_isShut ck_X12_isShut rfl pl_RX12 hX stops f hlen hr
abbrev i_X12_holds : Nat := 234
theorem sg_X12_holds : sg i_X12_holds = s_X12_holds := rfl
theorem en_X12_holds {l : Launch} {G : GG} {mc ms : Nat} {As : List Value} {h : AH} {nx : Nat} {Post : Option Value → AH → Nat → Prop} (hX : XC G ∧ TX l G) (stops : List Nat) (f : Nat) (hlen : Nat.ble (lg_sl As).length 8 = true) (hr : run l G 12 s_X12_holds e_X12_holds mc ms Post stops f 0 (lv_args 0 As) [] h nx 0 0) : Runs l G i_X12_holds mc ms As h nx Post := Runs.of' sg_X12_holds ck_X12_holds rfl pl_RX12 hX stops f hlen hr
abbrev i_X12_neverNow : Nat := 235
theorem sg_X12_neverNow : sg i_X12_neverNow = s_X12_neverNow := rfl
theorem en_X12_neverNow {l : Launch} {G : GG} {mc ms : Nat} {As : List Value} {h : AH} {nx : Nat} {Post : Option Value → AH → Nat → Prop} (hX : XC G ∧ TX l G) (stops : List Nat) (f : Nat) (hlen : Nat.ble (lg_sl As).length 6 = true) (hr : run l G 12 s_X12_neverNow e_X12_neverNow mc ms Post stops f 0 (lv_args 0 As) [] h nx 0 0) : Runs l G i_X12_neverNow mc ms As h nx Post := Runs.of' sg_X12_neverNow ck_X12_neverNow rfl pl_RX12 hX stops f hlen hr
abbrev i_X12_greens : Nat := 236
theorem sg_X12_greens : sg i_X12_greens = s_X12_greens := rfl
theorem en_X12_greens {l : Launch} {G : GG} {mc ms : Nat} {As : List Value} {h : AH} {nx : Nat} {Post : Option Value → AH → Nat → Prop} (hX : XC G ∧ TX l G) (stops : List Nat) (f : Nat) (hlen : Nat.ble (lg_sl As).length 4 = true) (hr : run l G 12 s_X12_greens e_X12_greens mc ms Post stops f 0 (lv_args 0 As) [] h nx 0 0) : Runs l G i_X12_greens mc ms As h nx Post := Runs.of' sg_X12_greens ck_X12_greens rfl pl_RX12 hX stops f hlen hr
abbrev i_X12_sound : Nat := 237
theorem sg_X12_sound : sg i_X12_sound = s_X12_sound := rfl
theorem en_X12_sound {l : Launch} {G : GG} {mc ms : Nat} {As : List Value} {h : AH} {nx : Nat} {Post : Option Value → AH → Nat → Prop} (hX : XC G ∧ TX l G) (stops : List Nat) (f : Nat) (hlen : Nat.ble (lg_sl As).length 2 = true) (hr : run l G 12 s_X12_sound e_X12_sound mc ms Post stops f 0 (lv_args 0 As) [] h nx 0 0) : Runs l G i_X12_sound mc ms As h nx Post := Runs.of' sg_X12_sound ck_X12_sound rfl pl_RX12 hX stops f hlen hr
abbrev i_X12_spoils : Nat := 238
theorem sg_X12_spoils : sg i_X12_spoils = s_X12_spoils := rfl
theorem en_X12_spoils {l : Launch} {G : GG} {mc ms : Nat} {As : List Value} {h : AH} {nx : Nat} {Post : Option Value → AH → Nat → Prop} (hX : XC G ∧ TX l G) (stops : List Nat) (f : Nat) (hlen : Nat.ble (lg_sl As).length 3 = true) (hr : run l G 12 s_X12_spoils e_X12_spoils mc ms Post stops f 0 (lv_args 0 As) [] h nx 0 0) : Runs l G i_X12_spoils mc ms As h nx Post := Runs.of' sg_X12_spoils ck_X12_spoils rfl pl_RX12 hX stops f hlen hr
abbrev i_X12_closes : Nat := 239
theorem sg_X12_closes : sg i_X12_closes = s_X12_closes := rfl
theorem en_X12_closes {l : Launch} {G : GG} {mc ms : Nat} {As : List Value} {h : AH} {nx : Nat} {Post : Option Value → AH → Nat → Prop} (hX : XC G ∧ TX l G) (stops : List Nat) (f : Nat) (hlen : Nat.ble (lg_sl As).length 7 = true) (hr : run l G 12 s_X12_closes e_X12_closes mc ms Post stops f 0 (lv_args 0 As) [] h nx 0 0) : Runs l G i_X12_closes mc ms As h nx Post := Runs.of' sg_X12_closes ck_X12_closes rfl pl_RX12 hX stops f hlen hr
abbrev i_X12_all : Nat := 240
theorem sg_X12_all : sg i_X12_all = s_X12_all := rfl
theorem en_X12_all {l : Launch} {G : GG} {mc ms : Nat} {As : List Value} {h : AH} {nx : Nat} {Post : Option Value → AH → Nat → Prop} (hX : XC G ∧ TX l G) (stops : List Nat) (f : Nat) (hlen : Nat.ble (lg_sl As).length 2 = true) (hr : run l G 12 s_X12_all e_X12_all mc ms Post stops f 0 (lv_args 0 As) [] h nx 0 0) : Runs l G i_X12_all mc ms As h nx Post := Runs.of' sg_X12_all ck_X12_all rfl pl_RX12 hX stops f hlen hr
abbrev i_X12_shutBits : Nat := 241
theorem sg_X12_shutBits : sg i_X12_shutBits = s_X12_shutBits := rfl
theorem en_X12_shutBits {l : Launch} {G : GG} {mc ms : Nat} {As : List Value} {h : AH} {nx : Nat} {Post : Option Value → AH → Nat → Prop} (hX : XC G ∧ TX l G) (stops : List Nat) (f : Nat) (hlen : Nat.ble (lg_sl As).length 8 = true) (hr : run l G 12 s_X12_shutBits e_X12_shutBits mc ms Post stops f 0 (lv_args 0 As) [] h nx 0 0) : Runs l G i_X12_shutBits mc ms As h nx Post := Runs.of' sg_X12_shutBits ck_X12_shutBits rfl pl_RX12 hX stops f hlen hr
abbrev i_X12_isCircuit : Nat := 242
theorem sg_X12_isCircuit : sg i_X12_isCircuit = s_X12_isCircuit := rfl
theorem en_X12_isCircuit {l : Launch} {G : GG} {mc ms : Nat} {As : List Value} {h : AH} {nx : Nat} {Post : Option Value → AH → Nat → Prop} (hX : XC G ∧ TX l G) (stops : List Nat) (f : Nat) (hlen : Nat.ble (lg_sl As).length 3 = true) (hr : run l G 12 s_X12_isCircuit e_X12_isCircuit mc ms Post stops f 0 (lv_args 0 As) [] h nx 0 0) : Runs l G i_X12_isCircuit mc ms As h nx Post := Runs.of' sg_X12_isCircuit ck_X12_isCircuit rfl pl_RX12 hX stops f hlen hr
abbrev i_X12_builds : Nat := 243
theorem sg_X12_builds : sg i_X12_builds = s_X12_builds := rfl
theorem en_X12_builds {l : Launch} {G : GG} {mc ms : Nat} {As : List Value} {h : AH} {nx : Nat} {Post : Option Value → AH → Nat → Prop} (hX : XC G ∧ TX l G) (stops : List Nat) (f : Nat) (hlen : Nat.ble (lg_sl As).length 4 = true) (hr : run l G 12 s_X12_builds e_X12_builds mc ms Post stops f 0 (lv_args 0 As) [] h nx 0 0) : Runs l G i_X12_builds mc ms As h nx Post := Runs.of' sg_X12_builds ck_X12_builds rfl pl_RX12 hX stops f hlen hr
abbrev i_X12_lays : Nat := 244
theorem sg_X12_lays : sg i_X12_lays = s_X12_lays := rfl
theorem en_X12_lays {l : Launch} {G : GG} {mc ms : Nat} {As : List Value} {h : AH} {nx : Nat} {Post : Option Value → AH → Nat → Prop} (hX : XC G ∧ TX l G) (stops : List Nat) (f : Nat) (hlen : Nat.ble (lg_sl As).length 7 = true) (hr : run l G 12 s_X12_lays e_X12_lays mc ms Post stops f 0 (lv_args 0 As) [] h nx 0 0) : Runs l G i_X12_lays mc ms As h nx Post := Runs.of' sg_X12_lays ck_X12_lays rfl pl_RX12 hX stops f hlen hr
abbrev i_X12_allowed : Nat := 245
theorem sg_X12_allowed : sg i_X12_allowed = s_X12_allowed := rfl
theorem en_X12_allowed {l : Launch} {G : GG} {mc ms : Nat} {As : List Value} {h : AH} {nx : Nat} {Post : Option Value → AH → Nat → Prop} (hX : XC G ∧ TX l G) (stops : List Nat) (f : Nat) (hlen : Nat.ble (lg_sl As).length 11 = true) (hr : run l G 12 s_X12_allowed e_X12_allowed mc ms Post stops f 0 (lv_args 0 As) [] h nx 0 0) : Runs l G i_X12_allowed mc ms As h nx Post := Runs.of' sg_X12_allowed ck_X12_allowed rfl pl_RX12 hX stops f hlen hr
abbrev i_X12_worksOut : Nat := 246
theorem sg_X12_worksOut : sg i_X12_worksOut = s_X12_worksOut := rfl
theorem en_X12_worksOut {l : Launch} {G : GG} {mc ms : Nat} {As : List Value} {h : AH} {nx : Nat} {Post : Option Value → AH → Nat → Prop} (hX : XC G ∧ TX l G) (stops : List Nat) (f : Nat) (hlen : Nat.ble (lg_sl As).length 12 = true) (hr : run l G 12 s_X12_worksOut e_X12_worksOut mc ms Post stops f 0 (lv_args 0 As) [] h nx 0 0) : Runs l G i_X12_worksOut mc ms As h nx Post := Runs.of' sg_X12_worksOut ck_X12_worksOut rfl pl_RX12 hX stops f hlen hr
abbrev i_X12_placed : Nat := 247
theorem sg_X12_placed : sg i_X12_placed = s_X12_placed := rfl
theorem en_X12_placed {l : Launch} {G : GG} {mc ms : Nat} {As : List Value} {h : AH} {nx : Nat} {Post : Option Value → AH → Nat → Prop} (hX : XC G ∧ TX l G) (stops : List Nat) (f : Nat) (hlen : Nat.ble (lg_sl As).length 3 = true) (hr : run l G 12 s_X12_placed e_X12_placed mc ms Post stops f 0 (lv_args 0 As) [] h nx 0 0) : Runs l G i_X12_placed mc ms As h nx Post := Runs.of' sg_X12_placed ck_X12_placed rfl pl_RX12 hX stops f hlen hr
abbrev i_X12_startOf : Nat := 248
theorem sg_X12_startOf : sg i_X12_startOf = s_X12_startOf := rfl
theorem en_X12_startOf {l : Launch} {G : GG} {mc ms : Nat} {As : List Value} {h : AH} {nx : Nat} {Post : Option Value → AH → Nat → Prop} (hX : XC G ∧ TX l G) (stops : List Nat) (f : Nat) (hlen : Nat.ble (lg_sl As).length 2 = true) (hr : run l G 12 s_X12_startOf e_X12_startOf mc ms Post stops f 0 (lv_args 0 As) [] h nx 0 0) : Runs l G i_X12_startOf mc ms As h nx Post := Runs.of' sg_X12_startOf ck_X12_startOf rfl pl_RX12 hX stops f hlen hr
abbrev i_X12_behind : Nat := 249
theorem sg_X12_behind : sg i_X12_behind = s_X12_behind := rfl
theorem en_X12_behind {l : Launch} {G : GG} {mc ms : Nat} {As : List Value} {h : AH} {nx : Nat} {Post : Option Value → AH → Nat → Prop} (hX : XC G ∧ TX l G) (stops : List Nat) (f : Nat) (hlen : Nat.ble (lg_sl As).length 4 = true) (hr : run l G 12 s_X12_behind e_X12_behind mc ms Post stops f 0 (lv_args 0 As) [] h nx 0 0) : Runs l G i_X12_behind mc ms As h nx Post := Runs.of' sg_X12_behind ck_X12_behind rfl pl_RX12 hX stops f hlen hr
abbrev i_X12_lampsAt : Nat := 250
theorem sg_X12_lampsAt : sg i_X12_lampsAt = s_X12_lampsAt := rfl
theorem en_X12_lampsAt {l : Launch} {G : GG} {mc ms : Nat} {As : List Value} {h : AH} {nx : Nat} {Post : Option Value → AH → Nat → Prop} (hX : XC G ∧ TX l G) (stops : List Nat) (f : Nat) (hlen : Nat.ble (lg_sl As).length 4 = true) (hr : run l G 12 s_X12_lampsAt e_X12_lampsAt mc ms Post stops f 0 (lv_args 0 As) [] h nx 0 0) : Runs l G i_X12_lampsAt mc ms As h nx Post := Runs.of' sg_X12_lampsAt ck_X12_lampsAt rfl pl_RX12 hX stops f hlen hr
abbrev i_X12_settles : Nat := 251
theorem sg_X12_settles : sg i_X12_settles = s_X12_settles := rfl
theorem en_X12_settles {l : Launch} {G : GG} {mc ms : Nat} {As : List Value} {h : AH} {nx : Nat} {Post : Option Value → AH → Nat → Prop} (hX : XC G ∧ TX l G) (stops : List Nat) (f : Nat) (hlen : Nat.ble (lg_sl As).length 5 = true) (hr : run l G 12 s_X12_settles e_X12_settles mc ms Post stops f 0 (lv_args 0 As) [] h nx 0 0) : Runs l G i_X12_settles mc ms As h nx Post := Runs.of' sg_X12_settles ck_X12_settles rfl pl_RX12 hX stops f hlen hr
abbrev i_X12_shows : Nat := 252
theorem sg_X12_shows : sg i_X12_shows = s_X12_shows := rfl
theorem en_X12_shows {l : Launch} {G : GG} {mc ms : Nat} {As : List Value} {h : AH} {nx : Nat} {Post : Option Value → AH → Nat → Prop} (hX : XC G ∧ TX l G) (stops : List Nat) (f : Nat) (hlen : Nat.ble (lg_sl As).length 5 = true) (hr : run l G 12 s_X12_shows e_X12_shows mc ms Post stops f 0 (lv_args 0 As) [] h nx 0 0) : Runs l G i_X12_shows mc ms As h nx Post := Runs.of' sg_X12_shows ck_X12_shows rfl pl_RX12 hX stops f hlen hr
abbrev i_X12_start : Nat := 253
theorem sg_X12_start : sg i_X12_start = s_X12_start := rfl
theorem en_X12_start {l : Launch} {G : GG} {mc ms : Nat} {As : List Value} {h : AH} {nx : Nat} {Post : Option Value → AH → Nat → Prop} (hX : XC G ∧ TX l G) (stops : List Nat) (f : Nat) (hlen : Nat.ble (lg_sl As).length 3 = true) (hr : run l G 12 s_X12_start e_X12_start mc ms Post stops f 0 (lv_args 0 As) [] h nx 0 0) : Runs l G i_X12_start mc ms As h nx Post := Runs.of' sg_X12_start ck_X12_start rfl pl_RX12 hX stops f hlen hr
abbrev i_X12_isWrong : Nat := 254
theorem sg_X12_isWrong : sg i_X12_isWrong = s_X12_isWrong := rfl
theorem en_X12_isWrong {l : Launch} {G : GG} {mc ms : Nat} {As : List Value} {h : AH} {nx : Nat} {Post : Option Value → AH → Nat → Prop} (hX : XC G ∧ TX l G) (stops : List Nat) (f : Nat) (hlen : Nat.ble (lg_sl As).length 5 = true) (hr : run l G 12 s_X12_isWrong e_X12_isWrong mc ms Post stops f 0 (lv_args 0 As) [] h nx 0 0) : Runs l G i_X12_isWrong mc ms As h nx Post := Runs.of' sg_X12_isWrong ck_X12_isWrong rfl pl_RX12 hX stops f hlen hr
abbrev i_X12_reaches : Nat := 255
theorem sg_X12_reaches : sg i_X12_reaches = s_X12_reaches := rfl
theorem en_X12_reaches {l : Launch} {G : GG} {mc ms : Nat} {As : List Value} {h : AH} {nx : Nat} {Post : Option Value → AH → Nat → Prop} (hX : XC G ∧ TX l G) (stops : List Nat) (f : Nat) (hlen : Nat.ble (lg_sl As).length 10 = true) (hr : run l G 12 s_X12_reaches e_X12_reaches mc ms Post stops f 0 (lv_args 0 As) [] h nx 0 0) : Runs l G i_X12_reaches mc ms As h nx Post := Runs.of' sg_X12_reaches ck_X12_reaches rfl pl_RX12 hX stops f hlen hr
abbrev i_X12_arrives : Nat := 256
theorem sg_X12_arrives : sg i_X12_arrives = s_X12_arrives := rfl
theorem en_X12_arrives {l : Launch} {G : GG} {mc ms : Nat} {As : List Value} {h : AH} {nx : Nat} {Post : Option Value → AH → Nat → Prop} (hX : XC G ∧ TX l G) (stops : List Nat) (f : Nat) (hlen : Nat.ble (lg_sl As).length 4 = true) (hr : run l G 12 s_X12_arrives e_X12_arrives mc ms Post stops f 0 (lv_args 0 As) [] h nx 0 0) : Runs l G i_X12_arrives mc ms As h nx Post := Runs.of' sg_X12_arrives ck_X12_arrives rfl pl_RX12 hX stops f hlen hr
abbrev i_X12_goesThrough : Nat := 257
theorem sg_X12_goesThrough : sg i_X12_goesThrough = s_X12_goesThrough := rfl
theorem en_X12_goesThrough {l : Launch} {G : GG} {mc ms : Nat} {As : List Value} {h : AH} {nx : Nat} {Post : Option Value → AH → Nat → Prop} (hX : XC G ∧ TX l G) (stops : List Nat) (f : Nat) (hlen : Nat.ble (lg_sl As).length 3 = true) (hr : run l G 12 s_X12_goesThrough e_X12_goesThrough mc ms Post stops f 0 (lv_args 0 As) [] h nx 0 0) : Runs l G i_X12_goesThrough mc ms As h nx Post := Runs.of' sg_X12_goesThrough ck_X12_goesThrough rfl pl_RX12 hX stops f hlen hr
abbrev i_X12_reached : Nat := 258
theorem sg_X12_reached : sg i_X12_reached = s_X12_reached := rfl
theorem en_X12_reached {l : Launch} {G : GG} {mc ms : Nat} {As : List Value} {h : AH} {nx : Nat} {Post : Option Value → AH → Nat → Prop} (hX : XC G ∧ TX l G) (stops : List Nat) (f : Nat) (hlen : Nat.ble (lg_sl As).length 3 = true) (hr : run l G 12 s_X12_reached e_X12_reached mc ms Post stops f 0 (lv_args 0 As) [] h nx 0 0) : Runs l G i_X12_reached mc ms As h nx Post := Runs.of' sg_X12_reached ck_X12_reached rfl pl_RX12 hX stops f hlen hr
abbrev i_X12_races : Nat := 259
theorem sg_X12_races : sg i_X12_races = s_X12_races := rfl
theorem en_X12_races {l : Launch} {G : GG} {mc ms : Nat} {As : List Value} {h : AH} {nx : Nat} {Post : Option Value → AH → Nat → Prop} (hX : XC G ∧ TX l G) (stops : List Nat) (f : Nat) (hlen : Nat.ble (lg_sl As).length 3 = true) (hr : run l G 12 s_X12_races e_X12_races mc ms Post stops f 0 (lv_args 0 As) [] h nx 0 0) : Runs l G i_X12_races mc ms As h nx Post := Runs.of' sg_X12_races ck_X12_races rfl pl_RX12 hX stops f hlen hr
abbrev i_X12_actsTo : Nat := 260
theorem sg_X12_actsTo : sg i_X12_actsTo = s_X12_actsTo := rfl
theorem en_X12_actsTo {l : Launch} {G : GG} {mc ms : Nat} {As : List Value} {h : AH} {nx : Nat} {Post : Option Value → AH → Nat → Prop} (hX : XC G ∧ TX l G) (stops : List Nat) (f : Nat) (hlen : Nat.ble (lg_sl As).length 4 = true) (hr : run l G 12 s_X12_actsTo e_X12_actsTo mc ms Post stops f 0 (lv_args 0 As) [] h nx 0 0) : Runs l G i_X12_actsTo mc ms As h nx Post := Runs.of' sg_X12_actsTo ck_X12_actsTo rfl pl_RX12 hX stops f hlen hr
abbrev i_X12_bad : Nat := 261
theorem sg_X12_bad : sg i_X12_bad = s_X12_bad := rfl
theorem en_X12_bad {l : Launch} {G : GG} {mc ms : Nat} {As : List Value} {h : AH} {nx : Nat} {Post : Option Value → AH → Nat → Prop} (hX : XC G ∧ TX l G) (stops : List Nat) (f : Nat) (hlen : Nat.ble (lg_sl As).length 3 = true) (hr : run l G 12 s_X12_bad e_X12_bad mc ms Post stops f 0 (lv_args 0 As) [] h nx 0 0) : Runs l G i_X12_bad mc ms As h nx Post := Runs.of' sg_X12_bad ck_X12_bad rfl pl_RX12 hX stops f hlen hr
abbrev i_X12_badAct : Nat := 262
theorem sg_X12_badAct : sg i_X12_badAct = s_X12_badAct := rfl
theorem en_X12_badAct {l : Launch} {G : GG} {mc ms : Nat} {As : List Value} {h : AH} {nx : Nat} {Post : Option Value → AH → Nat → Prop} (hX : XC G ∧ TX l G) (stops : List Nat) (f : Nat) (hlen : Nat.ble (lg_sl As).length 7 = true) (hr : run l G 12 s_X12_badAct e_X12_badAct mc ms Post stops f 0 (lv_args 0 As) [] h nx 0 0) : Runs l G i_X12_badAct mc ms As h nx Post := Runs.of' sg_X12_badAct ck_X12_badAct rfl pl_RX12 hX stops f hlen hr
abbrev i_X12_isBad : Nat := 263
theorem sg_X12_isBad : sg i_X12_isBad = s_X12_isBad := rfl
theorem en_X12_isBad {l : Launch} {G : GG} {mc ms : Nat} {As : List Value} {h : AH} {nx : Nat} {Post : Option Value → AH → Nat → Prop} (hX : XC G ∧ TX l G) (stops : List Nat) (f : Nat) (hlen : Nat.ble (lg_sl As).length 3 = true) (hr : run l G 12 s_X12_isBad e_X12_isBad mc ms Post stops f 0 (lv_args 0 As) [] h nx 0 0) : Runs l G i_X12_isBad mc ms As h nx Post := Runs.of' sg_X12_isBad ck_X12_isBad rfl pl_RX12 hX stops f hlen hr
abbrev i_X12_singles : Nat := 264
theorem sg_X12_singles : sg i_X12_singles = s_X12_singles := rfl
theorem en_X12_singles {l : Launch} {G : GG} {mc ms : Nat} {As : List Value} {h : AH} {nx : Nat} {Post : Option Value → AH → Nat → Prop} (hX : XC G ∧ TX l G) (stops : List Nat) (f : Nat) (hlen : Nat.ble (lg_sl As).length 3 = true) (hr : run l G 12 s_X12_singles e_X12_singles mc ms Post stops f 0 (lv_args 0 As) [] h nx 0 0) : Runs l G i_X12_singles mc ms As h nx Post := Runs.of' sg_X12_singles ck_X12_singles rfl pl_RX12 hX stops f hlen hr
abbrev i_X12_pairsOf : Nat := 265
theorem sg_X12_pairsOf : sg i_X12_pairsOf = s_X12_pairsOf := rfl
theorem en_X12_pairsOf {l : Launch} {G : GG} {mc ms : Nat} {As : List Value} {h : AH} {nx : Nat} {Post : Option Value → AH → Nat → Prop} (hX : XC G ∧ TX l G) (stops : List Nat) (f : Nat) (hlen : Nat.ble (lg_sl As).length 4 = true) (hr : run l G 12 s_X12_pairsOf e_X12_pairsOf mc ms Post stops f 0 (lv_args 0 As) [] h nx 0 0) : Runs l G i_X12_pairsOf mc ms As h nx Post := Runs.of' sg_X12_pairsOf ck_X12_pairsOf rfl pl_RX12 hX stops f hlen hr
abbrev i_X12_pairs : Nat := 266
theorem sg_X12_pairs : sg i_X12_pairs = s_X12_pairs := rfl
theorem en_X12_pairs {l : Launch} {G : GG} {mc ms : Nat} {As : List Value} {h : AH} {nx : Nat} {Post : Option Value → AH → Nat → Prop} (hX : XC G ∧ TX l G) (stops : List Nat) (f : Nat) (hlen : Nat.ble (lg_sl As).length 2 = true) (hr : run l G 12 s_X12_pairs e_X12_pairs mc ms Post stops f 0 (lv_args 0 As) [] h nx 0 0) : Runs l G i_X12_pairs mc ms As h nx Post := Runs.of' sg_X12_pairs ck_X12_pairs rfl pl_RX12 hX stops f hlen hr
abbrev i_X12_pair : Nat := 267
theorem sg_X12_pair : sg i_X12_pair = s_X12_pair := rfl
theorem en_X12_pair {l : Launch} {G : GG} {mc ms : Nat} {As : List Value} {h : AH} {nx : Nat} {Post : Option Value → AH → Nat → Prop} (hX : XC G ∧ TX l G) (stops : List Nat) (f : Nat) (hlen : Nat.ble (lg_sl As).length 3 = true) (hr : run l G 12 s_X12_pair e_X12_pair mc ms Post stops f 0 (lv_args 0 As) [] h nx 0 0) : Runs l G i_X12_pair mc ms As h nx Post := Runs.of' sg_X12_pair ck_X12_pair rfl pl_RX12 hX stops f hlen hr
abbrev i_X12_joins : Nat := 268
theorem sg_X12_joins : sg i_X12_joins = s_X12_joins := rfl
theorem en_X12_joins {l : Launch} {G : GG} {mc ms : Nat} {As : List Value} {h : AH} {nx : Nat} {Post : Option Value → AH → Nat → Prop} (hX : XC G ∧ TX l G) (stops : List Nat) (f : Nat) (hlen : Nat.ble (lg_sl As).length 3 = true) (hr : run l G 12 s_X12_joins e_X12_joins mc ms Post stops f 0 (lv_args 0 As) [] h nx 0 0) : Runs l G i_X12_joins mc ms As h nx Post := Runs.of' sg_X12_joins ck_X12_joins rfl pl_RX12 hX stops f hlen hr
abbrev i_X12_seen : Nat := 269
theorem sg_X12_seen : sg i_X12_seen = s_X12_seen := rfl
theorem en_X12_seen {l : Launch} {G : GG} {mc ms : Nat} {As : List Value} {h : AH} {nx : Nat} {Post : Option Value → AH → Nat → Prop} (hX : XC G ∧ TX l G) (stops : List Nat) (f : Nat) (hlen : Nat.ble (lg_sl As).length 4 = true) (hr : run l G 12 s_X12_seen e_X12_seen mc ms Post stops f 0 (lv_args 0 As) [] h nx 0 0) : Runs l G i_X12_seen mc ms As h nx Post := Runs.of' sg_X12_seen ck_X12_seen rfl pl_RX12 hX stops f hlen hr
abbrev i_X12_deep : Nat := 270
theorem sg_X12_deep : sg i_X12_deep = s_X12_deep := rfl
theorem en_X12_deep {l : Launch} {G : GG} {mc ms : Nat} {As : List Value} {h : AH} {nx : Nat} {Post : Option Value → AH → Nat → Prop} (hX : XC G ∧ TX l G) (stops : List Nat) (f : Nat) (hlen : Nat.ble (lg_sl As).length 4 = true) (hr : run l G 12 s_X12_deep e_X12_deep mc ms Post stops f 0 (lv_args 0 As) [] h nx 0 0) : Runs l G i_X12_deep mc ms As h nx Post := Runs.of' sg_X12_deep ck_X12_deep rfl pl_RX12 hX stops f hlen hr
abbrev i_X12_actBetween : Nat := 271
theorem sg_X12_actBetween : sg i_X12_actBetween = s_X12_actBetween := rfl
theorem en_X12_actBetween {l : Launch} {G : GG} {mc ms : Nat} {As : List Value} {h : AH} {nx : Nat} {Post : Option Value → AH → Nat → Prop} (hX : XC G ∧ TX l G) (stops : List Nat) (f : Nat) (hlen : Nat.ble (lg_sl As).length 4 = true) (hr : run l G 12 s_X12_actBetween e_X12_actBetween mc ms Post stops f 0 (lv_args 0 As) [] h nx 0 0) : Runs l G i_X12_actBetween mc ms As h nx Post := Runs.of' sg_X12_actBetween ck_X12_actBetween rfl pl_RX12 hX stops f hlen hr
abbrev i_X12_leastTest : Nat := 272
theorem sg_X12_leastTest : sg i_X12_leastTest = s_X12_leastTest := rfl
theorem en_X12_leastTest {l : Launch} {G : GG} {mc ms : Nat} {As : List Value} {h : AH} {nx : Nat} {Post : Option Value → AH → Nat → Prop} (hX : XC G ∧ TX l G) (stops : List Nat) (f : Nat) (hlen : Nat.ble (lg_sl As).length 11 = true) (hr : run l G 12 s_X12_leastTest e_X12_leastTest mc ms Post stops f 0 (lv_args 0 As) [] h nx 0 0) : Runs l G i_X12_leastTest mc ms As h nx Post := Runs.of' sg_X12_leastTest ck_X12_leastTest rfl pl_RX12 hX stops f hlen hr
abbrev i_X12_findsTest : Nat := 273
theorem sg_X12_findsTest : sg i_X12_findsTest = s_X12_findsTest := rfl
theorem en_X12_findsTest {l : Launch} {G : GG} {mc ms : Nat} {As : List Value} {h : AH} {nx : Nat} {Post : Option Value → AH → Nat → Prop} (hX : XC G ∧ TX l G) (stops : List Nat) (f : Nat) (hlen : Nat.ble (lg_sl As).length 2 = true) (hr : run l G 12 s_X12_findsTest e_X12_findsTest mc ms Post stops f 0 (lv_args 0 As) [] h nx 0 0) : Runs l G i_X12_findsTest mc ms As h nx Post := Runs.of' sg_X12_findsTest ck_X12_findsTest rfl pl_RX12 hX stops f hlen hr
abbrev i_X12_least : Nat := 274
theorem sg_X12_least : sg i_X12_least = s_X12_least := rfl
theorem en_X12_least {l : Launch} {G : GG} {mc ms : Nat} {As : List Value} {h : AH} {nx : Nat} {Post : Option Value → AH → Nat → Prop} (hX : XC G ∧ TX l G) (stops : List Nat) (f : Nat) (hlen : Nat.ble (lg_sl As).length 2 = true) (hr : run l G 12 s_X12_least e_X12_least mc ms Post stops f 0 (lv_args 0 As) [] h nx 0 0) : Runs l G i_X12_least mc ms As h nx Post := Runs.of' sg_X12_least ck_X12_least rfl pl_RX12 hX stops f hlen hr
abbrev i_X12_leastAct : Nat := 275
theorem sg_X12_leastAct : sg i_X12_leastAct = s_X12_leastAct := rfl
theorem en_X12_leastAct {l : Launch} {G : GG} {mc ms : Nat} {As : List Value} {h : AH} {nx : Nat} {Post : Option Value → AH → Nat → Prop} (hX : XC G ∧ TX l G) (stops : List Nat) (f : Nat) (hlen : Nat.ble (lg_sl As).length 3 = true) (hr : run l G 12 s_X12_leastAct e_X12_leastAct mc ms Post stops f 0 (lv_args 0 As) [] h nx 0 0) : Runs l G i_X12_leastAct mc ms As h nx Post := Runs.of' sg_X12_leastAct ck_X12_leastAct rfl pl_RX12 hX stops f hlen hr
abbrev i_X12_sees : Nat := 276
theorem sg_X12_sees : sg i_X12_sees = s_X12_sees := rfl
theorem en_X12_sees {l : Launch} {G : GG} {mc ms : Nat} {As : List Value} {h : AH} {nx : Nat} {Post : Option Value → AH → Nat → Prop} (hX : XC G ∧ TX l G) (stops : List Nat) (f : Nat) (hlen : Nat.ble (lg_sl As).length 7 = true) (hr : run l G 12 s_X12_sees e_X12_sees mc ms Post stops f 0 (lv_args 0 As) [] h nx 0 0) : Runs l G i_X12_sees mc ms As h nx Post := Runs.of' sg_X12_sees ck_X12_sees rfl pl_RX12 hX stops f hlen hr
abbrev i_X12_makesSuite : Nat := 277
theorem sg_X12_makesSuite : sg i_X12_makesSuite = s_X12_makesSuite := rfl
theorem en_X12_makesSuite {l : Launch} {G : GG} {mc ms : Nat} {As : List Value} {h : AH} {nx : Nat} {Post : Option Value → AH → Nat → Prop} (hX : XC G ∧ TX l G) (stops : List Nat) (f : Nat) (hlen : Nat.ble (lg_sl As).length 4 = true) (hr : run l G 12 s_X12_makesSuite e_X12_makesSuite mc ms Post stops f 0 (lv_args 0 As) [] h nx 0 0) : Runs l G i_X12_makesSuite mc ms As h nx Post := Runs.of' sg_X12_makesSuite ck_X12_makesSuite rfl pl_RX12 hX stops f hlen hr
abbrev i_X12_hidden : Nat := 278
theorem sg_X12_hidden : sg i_X12_hidden = s_X12_hidden := rfl
theorem en_X12_hidden {l : Launch} {G : GG} {mc ms : Nat} {As : List Value} {h : AH} {nx : Nat} {Post : Option Value → AH → Nat → Prop} (hX : XC G ∧ TX l G) (stops : List Nat) (f : Nat) (hlen : Nat.ble (lg_sl As).length 1 = true) (hr : run l G 12 s_X12_hidden e_X12_hidden mc ms Post stops f 0 (lv_args 0 As) [] h nx 0 0) : Runs l G i_X12_hidden mc ms As h nx Post := Runs.of' sg_X12_hidden ck_X12_hidden rfl pl_RX12 hX stops f hlen hr
abbrev i_X12_suite : Nat := 279
theorem sg_X12_suite : sg i_X12_suite = s_X12_suite := rfl
theorem en_X12_suite {l : Launch} {G : GG} {mc ms : Nat} {As : List Value} {h : AH} {nx : Nat} {Post : Option Value → AH → Nat → Prop} (hX : XC G ∧ TX l G) (stops : List Nat) (f : Nat) (hlen : Nat.ble (lg_sl As).length 1 = true) (hr : run l G 12 s_X12_suite e_X12_suite mc ms Post stops f 0 (lv_args 0 As) [] h nx 0 0) : Runs l G i_X12_suite mc ms As h nx Post := Runs.of' sg_X12_suite ck_X12_suite rfl pl_RX12 hX stops f hlen hr
abbrev i_X12_suiteAct : Nat := 280
theorem sg_X12_suiteAct : sg i_X12_suiteAct = s_X12_suiteAct := rfl
theorem en_X12_suiteAct {l : Launch} {G : GG} {mc ms : Nat} {As : List Value} {h : AH} {nx : Nat} {Post : Option Value → AH → Nat → Prop} (hX : XC G ∧ TX l G) (stops : List Nat) (f : Nat) (hlen : Nat.ble (lg_sl As).length 3 = true) (hr : run l G 12 s_X12_suiteAct e_X12_suiteAct mc ms Post stops f 0 (lv_args 0 As) [] h nx 0 0) : Runs l G i_X12_suiteAct mc ms As h nx Post := Runs.of' sg_X12_suiteAct ck_X12_suiteAct rfl pl_RX12 hX stops f hlen hr
abbrev i_X12_suiteActs : Nat := 281
theorem sg_X12_suiteActs : sg i_X12_suiteActs = s_X12_suiteActs := rfl
theorem en_X12_suiteActs {l : Launch} {G : GG} {mc ms : Nat} {As : List Value} {h : AH} {nx : Nat} {Post : Option Value → AH → Nat → Prop} (hX : XC G ∧ TX l G) (stops : List Nat) (f : Nat) (hlen : Nat.ble (lg_sl As).length 3 = true) (hr : run l G 12 s_X12_suiteActs e_X12_suiteActs mc ms Post stops f 0 (lv_args 0 As) [] h nx 0 0) : Runs l G i_X12_suiteActs mc ms As h nx Post := Runs.of' sg_X12_suiteActs ck_X12_suiteActs rfl pl_RX12 hX stops f hlen hr
abbrev i_X12_isSame : Nat := 282
theorem sg_X12_isSame : sg i_X12_isSame = s_X12_isSame := rfl
theorem en_X12_isSame {l : Launch} {G : GG} {mc ms : Nat} {As : List Value} {h : AH} {nx : Nat} {Post : Option Value → AH → Nat → Prop} (hX : XC G ∧ TX l G) (stops : List Nat) (f : Nat) (hlen : Nat.ble (lg_sl As).length 4 = true) (hr : run l G 12 s_X12_isSame e_X12_isSame mc ms Post stops f 0 (lv_args 0 As) [] h nx 0 0) : Runs l G i_X12_isSame mc ms As h nx Post := Runs.of' sg_X12_isSame ck_X12_isSame rfl pl_RX12 hX stops f hlen hr
abbrev i_X12_isAlike : Nat := 283
theorem sg_X12_isAlike : sg i_X12_isAlike = s_X12_isAlike := rfl
theorem en_X12_isAlike {l : Launch} {G : GG} {mc ms : Nat} {As : List Value} {h : AH} {nx : Nat} {Post : Option Value → AH → Nat → Prop} (hX : XC G ∧ TX l G) (stops : List Nat) (f : Nat) (hlen : Nat.ble (lg_sl As).length 4 = true) (hr : run l G 12 s_X12_isAlike e_X12_isAlike mc ms Post stops f 0 (lv_args 0 As) [] h nx 0 0) : Runs l G i_X12_isAlike mc ms As h nx Post := Runs.of' sg_X12_isAlike ck_X12_isAlike rfl pl_RX12 hX stops f hlen hr
abbrev i_X12_unlikeOnes : Nat := 284
theorem sg_X12_unlikeOnes : sg i_X12_unlikeOnes = s_X12_unlikeOnes := rfl
theorem en_X12_unlikeOnes {l : Launch} {G : GG} {mc ms : Nat} {As : List Value} {h : AH} {nx : Nat} {Post : Option Value → AH → Nat → Prop} (hX : XC G ∧ TX l G) (stops : List Nat) (f : Nat) (hlen : Nat.ble (lg_sl As).length 5 = true) (hr : run l G 12 s_X12_unlikeOnes e_X12_unlikeOnes mc ms Post stops f 0 (lv_args 0 As) [] h nx 0 0) : Runs l G i_X12_unlikeOnes mc ms As h nx Post := Runs.of' sg_X12_unlikeOnes ck_X12_unlikeOnes rfl pl_RX12 hX stops f hlen hr
abbrev i_X12_unlike : Nat := 285
theorem sg_X12_unlike : sg i_X12_unlike = s_X12_unlike := rfl
theorem en_X12_unlike {l : Launch} {G : GG} {mc ms : Nat} {As : List Value} {h : AH} {nx : Nat} {Post : Option Value → AH → Nat → Prop} (hX : XC G ∧ TX l G) (stops : List Nat) (f : Nat) (hlen : Nat.ble (lg_sl As).length 3 = true) (hr : run l G 12 s_X12_unlike e_X12_unlike mc ms Post stops f 0 (lv_args 0 As) [] h nx 0 0) : Runs l G i_X12_unlike mc ms As h nx Post := Runs.of' sg_X12_unlike ck_X12_unlike rfl pl_RX12 hX stops f hlen hr
abbrev i_X12_isSafe : Nat := 286
theorem sg_X12_isSafe : sg i_X12_isSafe = s_X12_isSafe := rfl
theorem en_X12_isSafe {l : Launch} {G : GG} {mc ms : Nat} {As : List Value} {h : AH} {nx : Nat} {Post : Option Value → AH → Nat → Prop} (hX : XC G ∧ TX l G) (stops : List Nat) (f : Nat) (hlen : Nat.ble (lg_sl As).length 4 = true) (hr : run l G 12 s_X12_isSafe e_X12_isSafe mc ms Post stops f 0 (lv_args 0 As) [] h nx 0 0) : Runs l G i_X12_isSafe mc ms As h nx Post := Runs.of' sg_X12_isSafe ck_X12_isSafe rfl pl_RX12 hX stops f hlen hr
abbrev i_X12_safe : Nat := 287
theorem sg_X12_safe : sg i_X12_safe = s_X12_safe := rfl
theorem en_X12_safe {l : Launch} {G : GG} {mc ms : Nat} {As : List Value} {h : AH} {nx : Nat} {Post : Option Value → AH → Nat → Prop} (hX : XC G ∧ TX l G) (stops : List Nat) (f : Nat) (hlen : Nat.ble (lg_sl As).length 4 = true) (hr : run l G 12 s_X12_safe e_X12_safe mc ms Post stops f 0 (lv_args 0 As) [] h nx 0 0) : Runs l G i_X12_safe mc ms As h nx Post := Runs.of' sg_X12_safe ck_X12_safe rfl pl_RX12 hX stops f hlen hr
abbrev i_X12_bits : Nat := 288
theorem sg_X12_bits : sg i_X12_bits = s_X12_bits := rfl
theorem en_X12_bits {l : Launch} {G : GG} {mc ms : Nat} {As : List Value} {h : AH} {nx : Nat} {Post : Option Value → AH → Nat → Prop} (hX : XC G ∧ TX l G) (stops : List Nat) (f : Nat) (hlen : Nat.ble (lg_sl As).length 3 = true) (hr : run l G 12 s_X12_bits e_X12_bits mc ms Post stops f 0 (lv_args 0 As) [] h nx 0 0) : Runs l G i_X12_bits mc ms As h nx Post := Runs.of' sg_X12_bits ck_X12_bits rfl pl_RX12 hX stops f hlen hr
abbrev i_X12_plans : Nat := 289
theorem sg_X12_plans : sg i_X12_plans = s_X12_plans := rfl
theorem en_X12_plans {l : Launch} {G : GG} {mc ms : Nat} {As : List Value} {h : AH} {nx : Nat} {Post : Option Value → AH → Nat → Prop} (hX : XC G ∧ TX l G) (stops : List Nat) (f : Nat) (hlen : Nat.ble (lg_sl As).length 7 = true) (hr : run l G 12 s_X12_plans e_X12_plans mc ms Post stops f 0 (lv_args 0 As) [] h nx 0 0) : Runs l G i_X12_plans mc ms As h nx Post := Runs.of' sg_X12_plans ck_X12_plans rfl pl_RX12 hX stops f hlen hr
abbrev i_X12_plan : Nat := 290
theorem sg_X12_plan : sg i_X12_plan = s_X12_plan := rfl
theorem en_X12_plan {l : Launch} {G : GG} {mc ms : Nat} {As : List Value} {h : AH} {nx : Nat} {Post : Option Value → AH → Nat → Prop} (hX : XC G ∧ TX l G) (stops : List Nat) (f : Nat) (hlen : Nat.ble (lg_sl As).length 4 = true) (hr : run l G 12 s_X12_plan e_X12_plan mc ms Post stops f 0 (lv_args 0 As) [] h nx 0 0) : Runs l G i_X12_plan mc ms As h nx Post := Runs.of' sg_X12_plan ck_X12_plan rfl pl_RX12 hX stops f hlen hr
abbrev i_X12_stage : Nat := 291
theorem sg_X12_stage : sg i_X12_stage = s_X12_stage := rfl
theorem en_X12_stage {l : Launch} {G : GG} {mc ms : Nat} {As : List Value} {h : AH} {nx : Nat} {Post : Option Value → AH → Nat → Prop} (hX : XC G ∧ TX l G) (stops : List Nat) (f : Nat) (hlen : Nat.ble (lg_sl As).length 10 = true) (hr : run l G 12 s_X12_stage e_X12_stage mc ms Post stops f 0 (lv_args 0 As) [] h nx 0 0) : Runs l G i_X12_stage mc ms As h nx Post := Runs.of' sg_X12_stage ck_X12_stage rfl pl_RX12 hX stops f hlen hr
abbrev i_X12_log : Nat := 292
theorem sg_X12_log : sg i_X12_log = s_X12_log := rfl
theorem en_X12_log {l : Launch} {G : GG} {mc ms : Nat} {As : List Value} {h : AH} {nx : Nat} {Post : Option Value → AH → Nat → Prop} (hX : XC G ∧ TX l G) (stops : List Nat) (f : Nat) (hlen : Nat.ble (lg_sl As).length 7 = true) (hr : run l G 12 s_X12_log e_X12_log mc ms Post stops f 0 (lv_args 0 As) [] h nx 0 0) : Runs l G i_X12_log mc ms As h nx Post := Runs.of' sg_X12_log ck_X12_log rfl pl_RX12 hX stops f hlen hr
abbrev i_X12_annul : Nat := 293
theorem sg_X12_annul : sg i_X12_annul = s_X12_annul := rfl
theorem en_X12_annul {l : Launch} {G : GG} {mc ms : Nat} {As : List Value} {h : AH} {nx : Nat} {Post : Option Value → AH → Nat → Prop} (hX : XC G ∧ TX l G) (stops : List Nat) (f : Nat) (hlen : Nat.ble (lg_sl As).length 2 = true) (hr : run l G 12 s_X12_annul e_X12_annul mc ms Post stops f 0 (lv_args 0 As) [] h nx 0 0) : Runs l G i_X12_annul mc ms As h nx Post := Runs.of' sg_X12_annul ck_X12_annul rfl pl_RX12 hX stops f hlen hr
abbrev i_X12_showsBehind : Nat := 294
theorem sg_X12_showsBehind : sg i_X12_showsBehind = s_X12_showsBehind := rfl
theorem en_X12_showsBehind {l : Launch} {G : GG} {mc ms : Nat} {As : List Value} {h : AH} {nx : Nat} {Post : Option Value → AH → Nat → Prop} (hX : XC G ∧ TX l G) (stops : List Nat) (f : Nat) (hlen : Nat.ble (lg_sl As).length 8 = true) (hr : run l G 12 s_X12_showsBehind e_X12_showsBehind mc ms Post stops f 0 (lv_args 0 As) [] h nx 0 0) : Runs l G i_X12_showsBehind mc ms As h nx Post := Runs.of' sg_X12_showsBehind ck_X12_showsBehind rfl pl_RX12 hX stops f hlen hr
abbrev i_X12_isVoid : Nat := 295
theorem sg_X12_isVoid : sg i_X12_isVoid = s_X12_isVoid := rfl
theorem en_X12_isVoid {l : Launch} {G : GG} {mc ms : Nat} {As : List Value} {h : AH} {nx : Nat} {Post : Option Value → AH → Nat → Prop} (hX : XC G ∧ TX l G) (stops : List Nat) (f : Nat) (hlen : Nat.ble (lg_sl As).length 4 = true) (hr : run l G 12 s_X12_isVoid e_X12_isVoid mc ms Post stops f 0 (lv_args 0 As) [] h nx 0 0) : Runs l G i_X12_isVoid mc ms As h nx Post := Runs.of' sg_X12_isVoid ck_X12_isVoid rfl pl_RX12 hX stops f hlen hr
abbrev i_X12_fitsLogs : Nat := 296
theorem sg_X12_fitsLogs : sg i_X12_fitsLogs = s_X12_fitsLogs := rfl
theorem en_X12_fitsLogs {l : Launch} {G : GG} {mc ms : Nat} {As : List Value} {h : AH} {nx : Nat} {Post : Option Value → AH → Nat → Prop} (hX : XC G ∧ TX l G) (stops : List Nat) (f : Nat) (hlen : Nat.ble (lg_sl As).length 4 = true) (hr : run l G 12 s_X12_fitsLogs e_X12_fitsLogs mc ms Post stops f 0 (lv_args 0 As) [] h nx 0 0) : Runs l G i_X12_fitsLogs mc ms As h nx Post := Runs.of' sg_X12_fitsLogs ck_X12_fitsLogs rfl pl_RX12 hX stops f hlen hr
abbrev i_X12_isKnown : Nat := 297
theorem sg_X12_isKnown : sg i_X12_isKnown = s_X12_isKnown := rfl
theorem en_X12_isKnown {l : Launch} {G : GG} {mc ms : Nat} {As : List Value} {h : AH} {nx : Nat} {Post : Option Value → AH → Nat → Prop} (hX : XC G ∧ TX l G) (stops : List Nat) (f : Nat) (hlen : Nat.ble (lg_sl As).length 2 = true) (hr : run l G 12 s_X12_isKnown e_X12_isKnown mc ms Post stops f 0 (lv_args 0 As) [] h nx 0 0) : Runs l G i_X12_isKnown mc ms As h nx Post := Runs.of' sg_X12_isKnown ck_X12_isKnown rfl pl_RX12 hX stops f hlen hr
abbrev i_X12_fits : Nat := 298
theorem sg_X12_fits : sg i_X12_fits = s_X12_fits := rfl
theorem en_X12_fits {l : Launch} {G : GG} {mc ms : Nat} {As : List Value} {h : AH} {nx : Nat} {Post : Option Value → AH → Nat → Prop} (hX : XC G ∧ TX l G) (stops : List Nat) (f : Nat) (hlen : Nat.ble (lg_sl As).length 3 = true) (hr : run l G 12 s_X12_fits e_X12_fits mc ms Post stops f 0 (lv_args 0 As) [] h nx 0 0) : Runs l G i_X12_fits mc ms As h nx Post := Runs.of' sg_X12_fits ck_X12_fits rfl pl_RX12 hX stops f hlen hr
abbrev i_X12_counts : Nat := 299
theorem sg_X12_counts : sg i_X12_counts = s_X12_counts := rfl
theorem en_X12_counts {l : Launch} {G : GG} {mc ms : Nat} {As : List Value} {h : AH} {nx : Nat} {Post : Option Value → AH → Nat → Prop} (hX : XC G ∧ TX l G) (stops : List Nat) (f : Nat) (hlen : Nat.ble (lg_sl As).length 5 = true) (hr : run l G 12 s_X12_counts e_X12_counts mc ms Post stops f 0 (lv_args 0 As) [] h nx 0 0) : Runs l G i_X12_counts mc ms As h nx Post := Runs.of' sg_X12_counts ck_X12_counts rfl pl_RX12 hX stops f hlen hr
abbrev i_X12_rowActs : Nat := 300
theorem sg_X12_rowActs : sg i_X12_rowActs = s_X12_rowActs := rfl
theorem en_X12_rowActs {l : Launch} {G : GG} {mc ms : Nat} {As : List Value} {h : AH} {nx : Nat} {Post : Option Value → AH → Nat → Prop} (hX : XC G ∧ TX l G) (stops : List Nat) (f : Nat) (hlen : Nat.ble (lg_sl As).length 1 = true) (hr : run l G 12 s_X12_rowActs e_X12_rowActs mc ms Post stops f 0 (lv_args 0 As) [] h nx 0 0) : Runs l G i_X12_rowActs mc ms As h nx Post := Runs.of' sg_X12_rowActs ck_X12_rowActs rfl pl_RX12 hX stops f hlen hr
abbrev i_X12_isRow : Nat := 301
theorem sg_X12_isRow : sg i_X12_isRow = s_X12_isRow := rfl
theorem en_X12_isRow {l : Launch} {G : GG} {mc ms : Nat} {As : List Value} {h : AH} {nx : Nat} {Post : Option Value → AH → Nat → Prop} (hX : XC G ∧ TX l G) (stops : List Nat) (f : Nat) (hlen : Nat.ble (lg_sl As).length 3 = true) (hr : run l G 12 s_X12_isRow e_X12_isRow mc ms Post stops f 0 (lv_args 0 As) [] h nx 0 0) : Runs l G i_X12_isRow mc ms As h nx Post := Runs.of' sg_X12_isRow ck_X12_isRow rfl pl_RX12 hX stops f hlen hr
abbrev i_X12_suspects : Nat := 302
theorem sg_X12_suspects : sg i_X12_suspects = s_X12_suspects := rfl
theorem en_X12_suspects {l : Launch} {G : GG} {mc ms : Nat} {As : List Value} {h : AH} {nx : Nat} {Post : Option Value → AH → Nat → Prop} (hX : XC G ∧ TX l G) (stops : List Nat) (f : Nat) (hlen : Nat.ble (lg_sl As).length 2 = true) (hr : run l G 12 s_X12_suspects e_X12_suspects mc ms Post stops f 0 (lv_args 0 As) [] h nx 0 0) : Runs l G i_X12_suspects mc ms As h nx Post := Runs.of' sg_X12_suspects ck_X12_suspects rfl pl_RX12 hX stops f hlen hr
abbrev i_X12_next : Nat := 303
theorem sg_X12_next : sg i_X12_next = s_X12_next := rfl
theorem en_X12_next {l : Launch} {G : GG} {mc ms : Nat} {As : List Value} {h : AH} {nx : Nat} {Post : Option Value → AH → Nat → Prop} (hX : XC G ∧ TX l G) (stops : List Nat) (f : Nat) (hlen : Nat.ble (lg_sl As).length 7 = true) (hr : run l G 12 s_X12_next e_X12_next mc ms Post stops f 0 (lv_args 0 As) [] h nx 0 0) : Runs l G i_X12_next mc ms As h nx Post := Runs.of' sg_X12_next ck_X12_next rfl pl_RX12 hX stops f hlen hr
abbrev i_X12_set : Nat := 304
theorem sg_X12_set : sg i_X12_set = s_X12_set := rfl
theorem en_X12_set {l : Launch} {G : GG} {mc ms : Nat} {As : List Value} {h : AH} {nx : Nat} {Post : Option Value → AH → Nat → Prop} (hX : XC G ∧ TX l G) (stops : List Nat) (f : Nat) (hlen : Nat.ble (lg_sl As).length 3 = true) (hr : run l G 12 s_X12_set e_X12_set mc ms Post stops f 0 (lv_args 0 As) [] h nx 0 0) : Runs l G i_X12_set mc ms As h nx Post := Runs.of' sg_X12_set ck_X12_set rfl pl_RX12 hX stops f hlen hr
abbrev i_X12_strap : Nat := 305
theorem sg_X12_strap : sg i_X12_strap = s_X12_strap := rfl
theorem en_X12_strap {l : Launch} {G : GG} {mc ms : Nat} {As : List Value} {h : AH} {nx : Nat} {Post : Option Value → AH → Nat → Prop} (hX : XC G ∧ TX l G) (stops : List Nat) (f : Nat) (hlen : Nat.ble (lg_sl As).length 3 = true) (hr : run l G 12 s_X12_strap e_X12_strap mc ms Post stops f 0 (lv_args 0 As) [] h nx 0 0) : Runs l G i_X12_strap mc ms As h nx Post := Runs.of' sg_X12_strap ck_X12_strap rfl pl_RX12 hX stops f hlen hr
abbrev i_X12_age : Nat := 306
theorem sg_X12_age : sg i_X12_age = s_X12_age := rfl
theorem en_X12_age {l : Launch} {G : GG} {mc ms : Nat} {As : List Value} {h : AH} {nx : Nat} {Post : Option Value → AH → Nat → Prop} (hX : XC G ∧ TX l G) (stops : List Nat) (f : Nat) (hlen : Nat.ble (lg_sl As).length 3 = true) (hr : run l G 12 s_X12_age e_X12_age mc ms Post stops f 0 (lv_args 0 As) [] h nx 0 0) : Runs l G i_X12_age mc ms As h nx Post := Runs.of' sg_X12_age ck_X12_age rfl pl_RX12 hX stops f hlen hr
abbrev i_X12_handShut : Nat := 307
theorem sg_X12_handShut : sg i_X12_handShut = s_X12_handShut := rfl
theorem en_X12_handShut {l : Launch} {G : GG} {mc ms : Nat} {As : List Value} {h : AH} {nx : Nat} {Post : Option Value → AH → Nat → Prop} (hX : XC G ∧ TX l G) (stops : List Nat) (f : Nat) (hlen : Nat.ble (lg_sl As).length 2 = true) (hr : run l G 12 s_X12_handShut e_X12_handShut mc ms Post stops f 0 (lv_args 0 As) [] h nx 0 0) : Runs l G i_X12_handShut mc ms As h nx Post := Runs.of' sg_X12_handShut ck_X12_handShut rfl pl_RX12 hX stops f hlen hr
abbrev i_X12_isIn : Nat := 308
theorem sg_X12_isIn : sg i_X12_isIn = s_X12_isIn := rfl
theorem en_X12_isIn {l : Launch} {G : GG} {mc ms : Nat} {As : List Value} {h : AH} {nx : Nat} {Post : Option Value → AH → Nat → Prop} (hX : XC G ∧ TX l G) (stops : List Nat) (f : Nat) (hlen : Nat.ble (lg_sl As).length 4 = true) (hr : run l G 12 s_X12_isIn e_X12_isIn mc ms Post stops f 0 (lv_args 0 As) [] h nx 0 0) : Runs l G i_X12_isIn mc ms As h nx Post := Runs.of' sg_X12_isIn ck_X12_isIn rfl pl_RX12 hX stops f hlen hr
abbrev i_X12_round : Nat := 309
theorem sg_X12_round : sg i_X12_round = s_X12_round := rfl
theorem en_X12_round {l : Launch} {G : GG} {mc ms : Nat} {As : List Value} {h : AH} {nx : Nat} {Post : Option Value → AH → Nat → Prop} (hX : XC G ∧ TX l G) (stops : List Nat) (f : Nat) (hlen : Nat.ble (lg_sl As).length 7 = true) (hr : run l G 12 s_X12_round e_X12_round mc ms Post stops f 0 (lv_args 0 As) [] h nx 0 0) : Runs l G i_X12_round mc ms As h nx Post := Runs.of' sg_X12_round ck_X12_round rfl pl_RX12 hX stops f hlen hr
abbrev i_X12_clash : Nat := 310
theorem sg_X12_clash : sg i_X12_clash = s_X12_clash := rfl
theorem en_X12_clash {l : Launch} {G : GG} {mc ms : Nat} {As : List Value} {h : AH} {nx : Nat} {Post : Option Value → AH → Nat → Prop} (hX : XC G ∧ TX l G) (stops : List Nat) (f : Nat) (hlen : Nat.ble (lg_sl As).length 1 = true) (hr : run l G 12 s_X12_clash e_X12_clash mc ms Post stops f 0 (lv_args 0 As) [] h nx 0 0) : Runs l G i_X12_clash mc ms As h nx Post := Runs.of' sg_X12_clash ck_X12_clash rfl pl_RX12 hX stops f hlen hr
abbrev i_X12_hand : Nat := 311
theorem sg_X12_hand : sg i_X12_hand = s_X12_hand := rfl
theorem en_X12_hand {l : Launch} {G : GG} {mc ms : Nat} {As : List Value} {h : AH} {nx : Nat} {Post : Option Value → AH → Nat → Prop} (hX : XC G ∧ TX l G) (stops : List Nat) (f : Nat) (hlen : Nat.ble (lg_sl As).length 4 = true) (hr : run l G 12 s_X12_hand e_X12_hand mc ms Post stops f 0 (lv_args 0 As) [] h nx 0 0) : Runs l G i_X12_hand mc ms As h nx Post := Runs.of' sg_X12_hand ck_X12_hand rfl pl_RX12 hX stops f hlen hr
abbrev i_X12_count : Nat := 312
theorem sg_X12_count : sg i_X12_count = s_X12_count := rfl
theorem en_X12_count {l : Launch} {G : GG} {mc ms : Nat} {As : List Value} {h : AH} {nx : Nat} {Post : Option Value → AH → Nat → Prop} (hX : XC G ∧ TX l G) (stops : List Nat) (f : Nat) (hlen : Nat.ble (lg_sl As).length 2 = true) (hr : run l G 12 s_X12_count e_X12_count mc ms Post stops f 0 (lv_args 0 As) [] h nx 0 0) : Runs l G i_X12_count mc ms As h nx Post := Runs.of' sg_X12_count ck_X12_count rfl pl_RX12 hX stops f hlen hr
abbrev i_J6_bitCount_0f7a4 : Nat := 313
theorem sg_J6_bitCount_0f7a4 : sg i_J6_bitCount_0f7a4 = s_J6_bitCount_0f7a4 := rfl
theorem en_J6_bitCount_0f7a4 {l : Launch} {G : GG} {mc ms : Nat} {As : List Value} {h : AH} {nx : Nat} {Post : Option Value → AH → Nat → Prop} (hX : XC G ∧ TX l G) (stops : List Nat) (f : Nat) (hlen : Nat.ble (lg_sl As).length 1 = true) (hr : run l G 15 s_J6_bitCount_0f7a4 e_J6_bitCount_0f7a4 mc ms Post stops f 0 (lv_args 0 As) [] h nx 0 0) : Runs l G i_J6_bitCount_0f7a4 mc ms As h nx Post := Runs.of' sg_J6_bitCount_0f7a4 ck_J6_bitCount_0f7a4 rfl pl_RJ6 hX stops f hlen hr
abbrev i_J13_bitCount_95d88 : Nat := 314
theorem sg_J13_bitCount_95d88 : sg i_J13_bitCount_95d88 = s_J13_bitCount_95d88 := rfl
theorem en_J13_bitCount_95d88 {l : Launch} {G : GG} {mc ms : Nat} {As : List Value} {h : AH} {nx : Nat} {Post : Option Value → AH → Nat → Prop} (hX : XC G ∧ TX l G) (stops : List Nat) (f : Nat) (hlen : Nat.ble (lg_sl As).length 2 = true) (hr : run l G 16 s_J13_bitCount_95d88 e_J13_bitCount_95d88 mc ms Post stops f 0 (lv_args 0 As) [] h nx 0 0) : Runs l G i_J13_bitCount_95d88 mc ms As h nx Post := Runs.of' sg_J13_bitCount_95d88 ck_J13_bitCount_95d88 rfl pl_RJ13 hX stops f hlen hr
abbrev i_J7_fill_d0a16 : Nat := 320
theorem sg_J7_fill_d0a16 : sg i_J7_fill_d0a16 = s_J7_fill_d0a16 := rfl
theorem en_J7_fill_d0a16 {l : Launch} {G : GG} {mc ms : Nat} {As : List Value} {h : AH} {nx : Nat} {Post : Option Value → AH → Nat → Prop} (hX : XC G ∧ TX l G) (stops : List Nat) (f : Nat) (hlen : Nat.ble (lg_sl As).length 5 = true) (hr : run l G 14 s_J7_fill_d0a16 e_J7_fill_d0a16 mc ms Post stops f 0 (lv_args 0 As) [] h nx 0 0) : Runs l G i_J7_fill_d0a16 mc ms As h nx Post := Runs.of' sg_J7_fill_d0a16 ck_J7_fill_d0a16 rfl pl_RJ7 hX stops f hlen hr
abbrev i_J7_fill_53178 : Nat := 321
theorem sg_J7_fill_53178 : sg i_J7_fill_53178 = s_J7_fill_53178 := rfl
theorem en_J7_fill_53178 {l : Launch} {G : GG} {mc ms : Nat} {As : List Value} {h : AH} {nx : Nat} {Post : Option Value → AH → Nat → Prop} (hX : XC G ∧ TX l G) (stops : List Nat) (f : Nat) (hlen : Nat.ble (lg_sl As).length 4 = true) (hr : run l G 14 s_J7_fill_53178 e_J7_fill_53178 mc ms Post stops f 0 (lv_args 0 As) [] h nx 0 0) : Runs l G i_J7_fill_53178 mc ms As h nx Post := Runs.of' sg_J7_fill_53178 ck_J7_fill_53178 rfl pl_RJ7 hX stops f hlen hr
abbrev i_J7_fill_031fb : Nat := 322
theorem sg_J7_fill_031fb : sg i_J7_fill_031fb = s_J7_fill_031fb := rfl
theorem en_J7_fill_031fb {l : Launch} {G : GG} {mc ms : Nat} {As : List Value} {h : AH} {nx : Nat} {Post : Option Value → AH → Nat → Prop} (hX : XC G ∧ TX l G) (stops : List Nat) (f : Nat) (hlen : Nat.ble (lg_sl As).length 4 = true) (hr : run l G 14 s_J7_fill_031fb e_J7_fill_031fb mc ms Post stops f 0 (lv_args 0 As) [] h nx 0 0) : Runs l G i_J7_fill_031fb mc ms As h nx Post := Runs.of' sg_J7_fill_031fb ck_J7_fill_031fb rfl pl_RJ7 hX stops f hlen hr
theorem Runs.of0' {l : Launch} {G : GG} {own b mc ms : Nat} {g : SG} {As : List Value} {h : AH} {nx : Nat} {Post : Option Value → AH → Nat → Prop} {es : List CE} (h0 : es.any isStr = false) (hg : sg b = g) (hck : CK own g es = true) (hown : g.1.cls = RN own) (hpl : plainName g.1.cls = true) (hX : XC G) (stops : List Nat) (f : Nat) (hlen : Nat.ble (lg_sl As).length g.2.2.1 = true) (hr : run l G own g es mc ms Post stops f 0 (lv_args 0 As) [] h nx 0 0) : Runs l G b mc ms As h nx Post := by
  subst hg
  exact Runs.of hX hown hpl (Nat.le_of_ble_eq_true hlen) (Go.of0 h0 hck stops f hr)
theorem pl_RJ0 : plainName RJ0 = true := by decide +kernel
theorem pl_RJ1 : plainName RJ1 = true := by decide +kernel
theorem pl_RJ3 : plainName RJ3 = true := by decide +kernel
abbrev i_J0_length_8abf5 : Nat := 317
theorem sg_J0_length_8abf5 : sg i_J0_length_8abf5 = s_J0_length_8abf5 := rfl
theorem en_J0_length_8abf5 {l : Launch} {G : GG} {mc ms : Nat} {As : List Value} {h : AH} {nx : Nat} {Post : Option Value → AH → Nat → Prop} (hX : XC G) (stops : List Nat) (f : Nat) (hlen : Nat.ble (lg_sl As).length 1 = true) (hr : run l G 20 s_J0_length_8abf5 e_J0_length_8abf5 mc ms Post stops f 0 (lv_args 0 As) [] h nx 0 0) : Runs l G i_J0_length_8abf5 mc ms As h nx Post := Runs.of0' (by decide +kernel) sg_J0_length_8abf5 ck_J0_length_8abf5 rfl pl_RJ0 hX stops f hlen hr
abbrev i_J0_charAt_5068e : Nat := 318
theorem sg_J0_charAt_5068e : sg i_J0_charAt_5068e = s_J0_charAt_5068e := rfl
theorem en_J0_charAt_5068e {l : Launch} {G : GG} {mc ms : Nat} {As : List Value} {h : AH} {nx : Nat} {Post : Option Value → AH → Nat → Prop} (hX : XC G) (stops : List Nat) (f : Nat) (hlen : Nat.ble (lg_sl As).length 2 = true) (hr : run l G 20 s_J0_charAt_5068e e_J0_charAt_5068e mc ms Post stops f 0 (lv_args 0 As) [] h nx 0 0) : Runs l G i_J0_charAt_5068e mc ms As h nx Post := Runs.of0' (by decide +kernel) sg_J0_charAt_5068e ck_J0_charAt_5068e rfl pl_RJ0 hX stops f hlen hr
abbrev i_J0_indexOf_0f7a4 : Nat := 319
theorem sg_J0_indexOf_0f7a4 : sg i_J0_indexOf_0f7a4 = s_J0_indexOf_0f7a4 := rfl
theorem en_J0_indexOf_0f7a4 {l : Launch} {G : GG} {mc ms : Nat} {As : List Value} {h : AH} {nx : Nat} {Post : Option Value → AH → Nat → Prop} (hX : XC G) (stops : List Nat) (f : Nat) (hlen : Nat.ble (lg_sl As).length 2 = true) (hr : run l G 20 s_J0_indexOf_0f7a4 e_J0_indexOf_0f7a4 mc ms Post stops f 0 (lv_args 0 As) [] h nx 0 0) : Runs l G i_J0_indexOf_0f7a4 mc ms As h nx Post := Runs.of0' (by decide +kernel) sg_J0_indexOf_0f7a4 ck_J0_indexOf_0f7a4 rfl pl_RJ0 hX stops f hlen hr
abbrev i_J0_coder_7d493 : Nat := 324
theorem sg_J0_coder_7d493 : sg i_J0_coder_7d493 = s_J0_coder_7d493 := rfl
theorem en_J0_coder_7d493 {l : Launch} {G : GG} {mc ms : Nat} {As : List Value} {h : AH} {nx : Nat} {Post : Option Value → AH → Nat → Prop} (hX : XC G) (stops : List Nat) (f : Nat) (hlen : Nat.ble (lg_sl As).length 1 = true) (hr : run l G 20 s_J0_coder_7d493 e_J0_coder_7d493 mc ms Post stops f 0 (lv_args 0 As) [] h nx 0 0) : Runs l G i_J0_coder_7d493 mc ms As h nx Post := Runs.of0' (by decide +kernel) sg_J0_coder_7d493 ck_J0_coder_7d493 rfl pl_RJ0 hX stops f hlen hr
abbrev i_J0_isLatin1_aae02 : Nat := 325
theorem sg_J0_isLatin1_aae02 : sg i_J0_isLatin1_aae02 = s_J0_isLatin1_aae02 := rfl
theorem en_J0_isLatin1_aae02 {l : Launch} {G : GG} {mc ms : Nat} {As : List Value} {h : AH} {nx : Nat} {Post : Option Value → AH → Nat → Prop} (hX : XC G) (stops : List Nat) (f : Nat) (hlen : Nat.ble (lg_sl As).length 1 = true) (hr : run l G 20 s_J0_isLatin1_aae02 e_J0_isLatin1_aae02 mc ms Post stops f 0 (lv_args 0 As) [] h nx 0 0) : Runs l G i_J0_isLatin1_aae02 mc ms As h nx Post := Runs.of0' (by decide +kernel) sg_J0_isLatin1_aae02 ck_J0_isLatin1_aae02 rfl pl_RJ0 hX stops f hlen hr
abbrev i_J0_checkIndex_df160 : Nat := 326
theorem sg_J0_checkIndex_df160 : sg i_J0_checkIndex_df160 = s_J0_checkIndex_df160 := rfl
theorem en_J0_checkIndex_df160 {l : Launch} {G : GG} {mc ms : Nat} {As : List Value} {h : AH} {nx : Nat} {Post : Option Value → AH → Nat → Prop} (hX : XC G) (stops : List Nat) (f : Nat) (hlen : Nat.ble (lg_sl As).length 2 = true) (hr : run l G 20 s_J0_checkIndex_df160 e_J0_checkIndex_df160 mc ms Post stops f 0 (lv_args 0 As) [] h nx 0 0) : Runs l G i_J0_checkIndex_df160 mc ms As h nx Post := Runs.of0' (by decide +kernel) sg_J0_checkIndex_df160 ck_J0_checkIndex_df160 rfl pl_RJ0 hX stops f hlen hr
abbrev i_J3_checkIndex_8e157 : Nat := 327
theorem sg_J3_checkIndex_8e157 : sg i_J3_checkIndex_8e157 = s_J3_checkIndex_8e157 := rfl
theorem en_J3_checkIndex_8e157 {l : Launch} {G : GG} {mc ms : Nat} {As : List Value} {h : AH} {nx : Nat} {Post : Option Value → AH → Nat → Prop} (hX : XC G) (stops : List Nat) (f : Nat) (hlen : Nat.ble (lg_sl As).length 3 = true) (hr : run l G 19 s_J3_checkIndex_8e157 e_J3_checkIndex_8e157 mc ms Post stops f 0 (lv_args 0 As) [] h nx 0 0) : Runs l G i_J3_checkIndex_8e157 mc ms As h nx Post := Runs.of0' (by decide +kernel) sg_J3_checkIndex_8e157 ck_J3_checkIndex_8e157 rfl pl_RJ3 hX stops f hlen hr
abbrev i_J1_charAt_3b067 : Nat := 328
theorem sg_J1_charAt_3b067 : sg i_J1_charAt_3b067 = s_J1_charAt_3b067 := rfl
theorem en_J1_charAt_3b067 {l : Launch} {G : GG} {mc ms : Nat} {As : List Value} {h : AH} {nx : Nat} {Post : Option Value → AH → Nat → Prop} (hX : XC G) (stops : List Nat) (f : Nat) (hlen : Nat.ble (lg_sl As).length 2 = true) (hr : run l G 18 s_J1_charAt_3b067 e_J1_charAt_3b067 mc ms Post stops f 0 (lv_args 0 As) [] h nx 0 0) : Runs l G i_J1_charAt_3b067 mc ms As h nx Post := Runs.of0' (by decide +kernel) sg_J1_charAt_3b067 ck_J1_charAt_3b067 rfl pl_RJ1 hX stops f hlen hr
abbrev i_J0_indexOf_7cf53 : Nat := 329
theorem sg_J0_indexOf_7cf53 : sg i_J0_indexOf_7cf53 = s_J0_indexOf_7cf53 := rfl
theorem en_J0_indexOf_7cf53 {l : Launch} {G : GG} {mc ms : Nat} {As : List Value} {h : AH} {nx : Nat} {Post : Option Value → AH → Nat → Prop} (hX : XC G) (stops : List Nat) (f : Nat) (hlen : Nat.ble (lg_sl As).length 3 = true) (hr : run l G 20 s_J0_indexOf_7cf53 e_J0_indexOf_7cf53 mc ms Post stops f 0 (lv_args 0 As) [] h nx 0 0) : Runs l G i_J0_indexOf_7cf53 mc ms As h nx Post := Runs.of0' (by decide +kernel) sg_J0_indexOf_7cf53 ck_J0_indexOf_7cf53 rfl pl_RJ0 hX stops f hlen hr
abbrev i_J1_indexOf_4cfef : Nat := 330
theorem sg_J1_indexOf_4cfef : sg i_J1_indexOf_4cfef = s_J1_indexOf_4cfef := rfl
theorem en_J1_indexOf_4cfef {l : Launch} {G : GG} {mc ms : Nat} {As : List Value} {h : AH} {nx : Nat} {Post : Option Value → AH → Nat → Prop} (hX : XC G) (stops : List Nat) (f : Nat) (hlen : Nat.ble (lg_sl As).length 4 = true) (hr : run l G 18 s_J1_indexOf_4cfef e_J1_indexOf_4cfef mc ms Post stops f 0 (lv_args 0 As) [] h nx 0 0) : Runs l G i_J1_indexOf_4cfef mc ms As h nx Post := Runs.of0' (by decide +kernel) sg_J1_indexOf_4cfef ck_J1_indexOf_4cfef rfl pl_RJ1 hX stops f hlen hr
abbrev i_J1_indexOfChar_4cfef : Nat := 331
theorem sg_J1_indexOfChar_4cfef : sg i_J1_indexOfChar_4cfef = s_J1_indexOfChar_4cfef := rfl
theorem en_J1_indexOfChar_4cfef {l : Launch} {G : GG} {mc ms : Nat} {As : List Value} {h : AH} {nx : Nat} {Post : Option Value → AH → Nat → Prop} (hX : XC G) (stops : List Nat) (f : Nat) (hlen : Nat.ble (lg_sl As).length 6 = true) (hr : run l G 18 s_J1_indexOfChar_4cfef e_J1_indexOfChar_4cfef mc ms Post stops f 0 (lv_args 0 As) [] h nx 0 0) : Runs l G i_J1_indexOfChar_4cfef mc ms As h nx Post := Runs.of0' (by decide +kernel) sg_J1_indexOfChar_4cfef ck_J1_indexOfChar_4cfef rfl pl_RJ1 hX stops f hlen hr
abbrev i_J1_canEncode_9a6ad : Nat := 332
theorem sg_J1_canEncode_9a6ad : sg i_J1_canEncode_9a6ad = s_J1_canEncode_9a6ad := rfl
theorem en_J1_canEncode_9a6ad {l : Launch} {G : GG} {mc ms : Nat} {As : List Value} {h : AH} {nx : Nat} {Post : Option Value → AH → Nat → Prop} (hX : XC G) (stops : List Nat) (f : Nat) (hlen : Nat.ble (lg_sl As).length 1 = true) (hr : run l G 18 s_J1_canEncode_9a6ad e_J1_canEncode_9a6ad mc ms Post stops f 0 (lv_args 0 As) [] h nx 0 0) : Runs l G i_J1_canEncode_9a6ad mc ms As h nx Post := Runs.of0' (by decide +kernel) sg_J1_canEncode_9a6ad ck_J1_canEncode_9a6ad rfl pl_RJ1 hX stops f hlen hr
