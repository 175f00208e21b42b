section LAWB
variable {p : Program} {l : Launch} {e : Env} {R : Room} {s : State} {m : MethodId} {args : Array Value} {below : List Frame} {meth : Method} {c : Code} {H : Heap} {locs : List Loc} {cells slots : Nat} {Q : State → Prop}
variable {pc : Nat} {ls : Array Slot} {rest st : List Value} {N N2 : Nat} {ef ef2 : Ef} {G G2 : Geo} {A : Nat → Prop} {H0 : Heap} {S S2 S' : St}
theorem lb_other {H1 : Heap} {locs1 : List Loc} (h2 : Hw N2 ef2 G2 A H0 S2 H locs) (hdis : ∀ i j, i < N → j < N2 → adr G i ≠ adr G2 j) (hk : ∀ q : Nat, q < H.size → ¬ AW N G H.size q → H1[q]? = H[q]?) (hS : va_S A H0 H1 locs1) : Hw N2 ef2 G2 A H0 S2 H1 locs1 := by
  refine ⟨h2.1.kept (fun k x hx => ?_), h2.2.1, hS, h2.2.2.2⟩
  have hlt := (h2.1 k x hx).lt
  obtain ⟨hkN, rfl⟩ := wld_of hx
  refine hk _ hlt ?_
  rintro (⟨i, hi, e⟩ | h)
  · exact hdis i k hi hkN e.symm
  · exact absurd hlt (Nat.not_lt.mpr h)
theorem lb_I {a : Array Value} {r : Int32} (h : Hw N ef G A H0 S H locs) (h2 : Hw N2 ef2 G2 A H0 S2 H locs) (hdis : ∀ i j, i < N → j < N2 → adr G i ≠ adr G2 j) (hr : va_Run p l e R s m args below meth c H locs cells slots 0 0 (F0 m pc ls st) rest (va_Qi (fun (r' : Int32) (u : St) => r' = r ∧ u = S') (PostW N ef G H.size) (AW N G H.size) a) (AW N G H.size))
    (kk : ∀ (H1 : Heap) (locs1 : List Loc), Hw N ef G A H0 S' H1 locs1 → Hw N2 ef2 G2 A H0 S2 H1 locs1 → W p l e R s m args below meth c H1 locs1 cells slots Q (F0 m (pc + 3) ls (.int r :: rest))) : W p l e R s m args below meth c H locs cells slots Q (F0 m pc ls st) :=
  va_calli hr h.2.2.1 (fun q _ hq => AW_in h h.2.2.1.1 q hq) (AW_in h h.2.2.1.1) (fun r' u t H1 locs1 ht hvm hw hB hz hk hS => by
    obtain ⟨rfl, rfl⟩ := hw
    exact kk H1 locs1 (Hw_back h h.2.2.1.1 ht hB hS) (lb_other h2 hdis hk hS))
theorem lb_L {a : Array Value} {r : Int64} (h : Hw N ef G A H0 S H locs) (h2 : Hw N2 ef2 G2 A H0 S2 H locs) (hdis : ∀ i j, i < N → j < N2 → adr G i ≠ adr G2 j) (hr : va_Run p l e R s m args below meth c H locs cells slots 0 0 (F0 m pc ls st) rest (va_Ql (fun (r' : Int64) (u : St) => r' = r ∧ u = S') (PostW N ef G H.size) (AW N G H.size) a) (AW N G H.size))
    (kk : ∀ (H1 : Heap) (locs1 : List Loc), Hw N ef G A H0 S' H1 locs1 → Hw N2 ef2 G2 A H0 S2 H1 locs1 → W p l e R s m args below meth c H1 locs1 cells slots Q (F0 m (pc + 3) ls (.long r :: rest))) : W p l e R s m args below meth c H locs cells slots Q (F0 m pc ls st) :=
  va_calll hr h.2.2.1 (fun q _ hq => AW_in h h.2.2.1.1 q hq) (AW_in h h.2.2.1.1) (fun r' u t H1 locs1 ht hvm hw hB hz hk hS => by
    obtain ⟨rfl, rfl⟩ := hw
    exact kk H1 locs1 (Hw_back h h.2.2.1.1 ht hB hS) (lb_other h2 hdis hk hS))
theorem lg_self (x : Int64) : lg_cmp x x = 0 := by unfold lg_cmp; rw [if_neg (fun h => Int64.lt_irrefl h), if_pos rfl]
end LAWB
theorem cv_RL_13 : CV RL 13 yX6_hall cX6_hall 8 (some .int) 4 := ⟨gU uML_RL_13 uIM_X6_hall uSEL_X6_hall uINI_RX6 uCO_X6_hall, by decide +kernel⟩
theorem cv_RL_17 : CV RL 17 yX7_hall cX7_hall 7 (some .int) 4 := ⟨gU uML_RL_17 uIM_X7_hall uSEL_X7_hall uINI_RX7 uCO_X7_hall, by decide +kernel⟩
theorem cv_RL_18 : CV RL 18 yX6_ofLamp cX6_ofLamp 3 (some .int) 2 := ⟨gU uML_RL_18 uIM_X6_ofLamp uSEL_X6_ofLamp uINI_RX6 uCO_X6_ofLamp, by decide +kernel⟩
theorem cv_RL_22 : CV RL 22 yX7_ofLamp cX7_ofLamp 3 (some .int) 2 := ⟨gU uML_RL_22 uIM_X7_ofLamp uSEL_X7_ofLamp uINI_RX7 uCO_X7_ofLamp, by decide +kernel⟩
theorem cv_RL_23 : CV RL 23 yX6_ofSwitch cX6_ofSwitch 3 (some .int) 2 := ⟨gU uML_RL_23 uIM_X6_ofSwitch uSEL_X6_ofSwitch uINI_RX6 uCO_X6_ofSwitch, by decide +kernel⟩
theorem cv_RL_26 : CV RL 26 yX7_ofSwitch cX7_ofSwitch 3 (some .int) 2 := ⟨gU uML_RL_26 uIM_X7_ofSwitch uSEL_X7_ofSwitch uINI_RX7 uCO_X7_ofSwitch, by decide +kernel⟩
theorem cv_RL_27 : CV RL 27 yX6_shade cX6_shade 4 (some .int) 2 := ⟨gU uML_RL_27 uIM_X6_shade uSEL_X6_shade uINI_RX6 uCO_X6_shade, by decide +kernel⟩
theorem cv_RL_30 : CV RL 30 yX7_shade cX7_shade 4 (some .int) 2 := ⟨gU uML_RL_30 uIM_X7_shade uSEL_X7_shade uINI_RX7 uCO_X7_shade, by decide +kernel⟩
theorem cv_RL_31 : CV RL 31 yX6_turn cX6_turn 4 (some .int) 2 := ⟨gU uML_RL_31 uIM_X6_turn uSEL_X6_turn uINI_RX6 uCO_X6_turn, by decide +kernel⟩
theorem cv_RL_34 : CV RL 34 yX7_turn cX7_turn 4 (some .int) 2 := ⟨gU uML_RL_34 uIM_X7_turn uSEL_X7_turn uINI_RX7 uCO_X7_turn, by decide +kernel⟩
theorem cv_RL_35 : CV RL 35 yX6_wire cX6_wire 3 (some .int) 2 := ⟨gU uML_RL_35 uIM_X6_wire uSEL_X6_wire uINI_RX6 uCO_X6_wire, by decide +kernel⟩
theorem cv_RL_38 : CV RL 38 yX7_wire cX7_wire 3 (some .int) 2 := ⟨gU uML_RL_38 uIM_X7_wire uSEL_X7_wire uINI_RX7 uCO_X7_wire, by decide +kernel⟩
theorem cv_RL_39 : CV RL 39 yX6_press cX6_press 3 (some .int) 2 := ⟨gU uML_RL_39 uIM_X6_press uSEL_X6_press uINI_RX6 uCO_X6_press, by decide +kernel⟩
theorem cv_RL_42 : CV RL 42 yX7_press cX7_press 3 (some .int) 2 := ⟨gU uML_RL_42 uIM_X7_press uSEL_X7_press uINI_RX7 uCO_X7_press, by decide +kernel⟩
theorem cv_RL_43 : CV RL 43 yX6_day cX6_day 9 (some .int) 5 := ⟨gU uML_RL_43 uIM_X6_day uSEL_X6_day uINI_RX6 uCO_X6_day, by decide +kernel⟩
theorem cv_RL_47 : CV RL 47 yX7_day cX7_day 10 (some .int) 5 := ⟨gU uML_RL_47 uIM_X7_day uSEL_X7_day uINI_RX7 uCO_X7_day, by decide +kernel⟩
theorem cv_RL_48 : CV RL 48 yX6_fewest cX6_fewest 9 (some .int) 4 := ⟨gU uML_RL_48 uIM_X6_fewest uSEL_X6_fewest uINI_RX6 uCO_X6_fewest, by decide +kernel⟩
theorem cv_RL_51 : CV RL 51 yX7_fewest cX7_fewest 8 (some .int) 4 := ⟨gU uML_RL_51 uIM_X7_fewest uSEL_X7_fewest uINI_RX7 uCO_X7_fewest, by decide +kernel⟩
theorem cv_RL_52 : CV RL 52 yX6_halls cX6_halls 1 (some .int) 0 := ⟨gU uML_RL_52 uIM_X6_halls uSEL_X6_halls uINI_RX6 uCO_X6_halls, by decide +kernel⟩
theorem cv_RL_56 : CV RL 56 yX7_halls cX7_halls 1 (some .int) 0 := ⟨gU uML_RL_56 uIM_X7_halls uSEL_X7_halls uINI_RX7 uCO_X7_halls, by decide +kernel⟩
theorem cv_RL_57 : CV RL 57 yX6_alone cX6_alone 3 (some .int) 1 := ⟨gU uML_RL_57 uIM_X6_alone uSEL_X6_alone uINI_RX6 uCO_X6_alone, by decide +kernel⟩
theorem cv_RL_61 : CV RL 61 yX7_alone cX7_alone 4 (some .int) 1 := ⟨gU uML_RL_61 uIM_X7_alone uSEL_X7_alone uINI_RX7 uCO_X7_alone, by decide +kernel⟩
theorem cv_RL_62 : CV RL 62 yX6_idle cX6_idle 1 (some .int) 0 := ⟨gU uML_RL_62 uIM_X6_idle uSEL_X6_idle uINI_RX6 uCO_X6_idle, by decide +kernel⟩
theorem cv_RL_65 : CV RL 65 yX7_idle cX7_idle 4 (some .int) 0 := ⟨gU uML_RL_65 uIM_X7_idle uSEL_X7_idle uINI_RX7 uCO_X7_idle, by decide +kernel⟩
theorem cv_RL_66 : CV RL 66 yX6_spare cX6_spare 5 (some .int) 0 := ⟨gU uML_RL_66 uIM_X6_spare uSEL_X6_spare uINI_RX6 uCO_X6_spare, by decide +kernel⟩
theorem cv_RL_69 : CV RL 69 yX7_spare cX7_spare 4 (some .int) 0 := ⟨gU uML_RL_69 uIM_X7_spare uSEL_X7_spare uINI_RX7 uCO_X7_spare, by decide +kernel⟩
theorem cv_RL_70 : CV RL 70 yX6_reading cX6_reading 4 (some .int) 3 := ⟨gU uML_RL_70 uIM_X6_reading uSEL_X6_reading uINI_RX6 uCO_X6_reading, by decide +kernel⟩
theorem cv_RL_74 : CV RL 74 yX7_reading cX7_reading 4 (some .int) 3 := ⟨gU uML_RL_74 uIM_X7_reading uSEL_X7_reading uINI_RX7 uCO_X7_reading, by decide +kernel⟩
theorem cv_RL_75 : CV RL 75 yX6_back cX6_back 2 (some .int) 1 := ⟨gU uML_RL_75 uIM_X6_back uSEL_X6_back uINI_RX6 uCO_X6_back, by decide +kernel⟩
theorem cv_RL_78 : CV RL 78 yX7_back cX7_back 2 (some .int) 1 := ⟨gU uML_RL_78 uIM_X7_back uSEL_X7_back uINI_RX7 uCO_X7_back, by decide +kernel⟩
theorem cv_RL_79 : CV RL 79 yX6_turnings cX6_turnings 2 (some .int) 1 := ⟨gU uML_RL_79 uIM_X6_turnings uSEL_X6_turnings uINI_RX6 uCO_X6_turnings, by decide +kernel⟩
theorem cv_RL_82 : CV RL 82 yX7_turnings cX7_turnings 5 (some .int) 1 := ⟨gU uML_RL_82 uIM_X7_turnings uSEL_X7_turnings uINI_RX7 uCO_X7_turnings, by decide +kernel⟩
theorem cv_RL_83 : CV RL 83 yX6_kinds cX6_kinds 2 (some .int) 1 := ⟨gU uML_RL_83 uIM_X6_kinds uSEL_X6_kinds uINI_RX6 uCO_X6_kinds, by decide +kernel⟩
theorem cv_RL_86 : CV RL 86 yX7_kinds cX7_kinds 5 (some .int) 1 := ⟨gU uML_RL_86 uIM_X7_kinds uSEL_X7_kinds uINI_RX7 uCO_X7_kinds, by decide +kernel⟩
theorem cv_RL_87 : CV RL 87 yX6_shadings cX6_shadings 2 (some .int) 1 := ⟨gU uML_RL_87 uIM_X6_shadings uSEL_X6_shadings uINI_RX6 uCO_X6_shadings, by decide +kernel⟩
theorem cv_RL_90 : CV RL 90 yX7_shadings cX7_shadings 5 (some .int) 1 := ⟨gU uML_RL_90 uIM_X7_shadings uSEL_X7_shadings uINI_RX7 uCO_X7_shadings, by decide +kernel⟩
theorem cv_RL_91 : CV RL 91 yX6_odds cX6_odds 6 (some .long) 2 := ⟨gU uML_RL_91 uIM_X6_odds uSEL_X6_odds uINI_RX6 uCO_X6_odds, by decide +kernel⟩
theorem cv_RL_95 : CV RL 95 yX7_odds cX7_odds 8 (some .long) 2 := ⟨gU uML_RL_95 uIM_X7_odds uSEL_X7_odds uINI_RX7 uCO_X7_odds, by decide +kernel⟩
theorem cv_RL_96 : CV RL 96 yX6_sheet cX6_sheet 5 (some .int) 3 := ⟨gU uML_RL_96 uIM_X6_sheet uSEL_X6_sheet uINI_RX6 uCO_X6_sheet, by decide +kernel⟩
theorem cv_RL_99 : CV RL 99 yX7_sheet cX7_sheet 5 (some .int) 3 := ⟨gU uML_RL_99 uIM_X7_sheet uSEL_X7_sheet uINI_RX7 uCO_X7_sheet, by decide +kernel⟩
theorem cv_RL_100 : CV RL 100 yX6_lose cX6_lose 3 (some .int) 1 := ⟨gU uML_RL_100 uIM_X6_lose uSEL_X6_lose uINI_RX6 uCO_X6_lose, by decide +kernel⟩
theorem cv_RL_103 : CV RL 103 yX7_lose cX7_lose 3 (some .int) 1 := ⟨gU uML_RL_103 uIM_X7_lose uSEL_X7_lose uINI_RX7 uCO_X7_lose, by decide +kernel⟩
theorem cv_RL_104 : CV RL 104 yX6_put cX6_put 5 (some .int) 3 := ⟨gU uML_RL_104 uIM_X6_put uSEL_X6_put uINI_RX6 uCO_X6_put, by decide +kernel⟩
theorem cv_RL_107 : CV RL 107 yX7_put cX7_put 4 (some .int) 3 := ⟨gU uML_RL_107 uIM_X7_put uSEL_X7_put uINI_RX7 uCO_X7_put, by decide +kernel⟩
theorem cv_RL_108 : CV RL 108 yX6_cell cX6_cell 6 (some .long) 3 := ⟨gU uML_RL_108 uIM_X6_cell uSEL_X6_cell uINI_RX6 uCO_X6_cell, by decide +kernel⟩
theorem cv_RL_112 : CV RL 112 yX7_cell cX7_cell 4 (some .long) 3 := ⟨gU uML_RL_112 uIM_X7_cell uSEL_X7_cell uINI_RX7 uCO_X7_cell, by decide +kernel⟩
theorem cv_RL_113 : CV RL 113 yX6_copy cX6_copy 8 (some .int) 5 := ⟨gU uML_RL_113 uIM_X6_copy uSEL_X6_copy uINI_RX6 uCO_X6_copy, by decide +kernel⟩
theorem cv_RL_116 : CV RL 116 yX7_copy cX7_copy 10 (some .int) 5 := ⟨gU uML_RL_116 uIM_X7_copy uSEL_X7_copy uINI_RX7 uCO_X7_copy, by decide +kernel⟩
theorem cv_RL_117 : CV RL 117 yX6_tell cX6_tell 2 (some .int) 1 := ⟨gU uML_RL_117 uIM_X6_tell uSEL_X6_tell uINI_RX6 uCO_X6_tell, by decide +kernel⟩
theorem cv_RL_120 : CV RL 120 yX7_tell cX7_tell 3 (some .int) 1 := ⟨gU uML_RL_120 uIM_X7_tell uSEL_X7_tell uINI_RX7 uCO_X7_tell, by decide +kernel⟩
theorem cv_RL_121 : CV RL 121 yX6_feel cX6_feel 2 (some .int) 1 := ⟨gU uML_RL_121 uIM_X6_feel uSEL_X6_feel uINI_RX6 uCO_X6_feel, by decide +kernel⟩
theorem cv_RL_124 : CV RL 124 yX7_feel cX7_feel 2 (some .int) 1 := ⟨gU uML_RL_124 uIM_X7_feel uSEL_X7_feel uINI_RX7 uCO_X7_feel, by decide +kernel⟩
theorem cv_RL_125 : CV RL 125 yX6_as cX6_as 3 (some .int) 2 := ⟨gU uML_RL_125 uIM_X6_as uSEL_X6_as uINI_RX6 uCO_X6_as, by decide +kernel⟩
theorem cv_RL_128 : CV RL 128 yX7_as cX7_as 3 (some .int) 2 := ⟨gU uML_RL_128 uIM_X7_as uSEL_X7_as uINI_RX7 uCO_X7_as, by decide +kernel⟩
theorem cv_RL_129 : CV RL 129 yX6_trace cX6_trace 1 (some .int) 0 := ⟨gU uML_RL_129 uIM_X6_trace uSEL_X6_trace uINI_RX6 uCO_X6_trace, by decide +kernel⟩
theorem cv_RL_132 : CV RL 132 yX7_trace cX7_trace 1 (some .int) 0 := ⟨gU uML_RL_132 uIM_X7_trace uSEL_X7_trace uINI_RX7 uCO_X7_trace, by decide +kernel⟩
theorem cv_RL_133 : CV RL 133 yX6_fault cX6_fault 1 (some .int) 0 := ⟨gU uML_RL_133 uIM_X6_fault uSEL_X6_fault uINI_RX6 uCO_X6_fault, by decide +kernel⟩
theorem cv_RL_136 : CV RL 136 yX7_fault cX7_fault 1 (some .int) 0 := ⟨gU uML_RL_136 uIM_X7_fault uSEL_X7_fault uINI_RX7 uCO_X7_fault, by decide +kernel⟩
theorem cv_RL_137 : CV RL 137 yX6_many cX6_many 2 (some .int) 1 := ⟨gU uML_RL_137 uIM_X6_many uSEL_X6_many uINI_RX6 uCO_X6_many, by decide +kernel⟩
theorem cv_RL_140 : CV RL 140 yX7_many cX7_many 2 (some .int) 1 := ⟨gU uML_RL_140 uIM_X7_many uSEL_X7_many uINI_RX7 uCO_X7_many, by decide +kernel⟩
def Sim_hall (Inv : St → St → Prop) : Prop := ∀ (Sx Sm : St) (a0 a1 a2 a3 : Int32), Inv Sx Sm → ∃ (r : Int32) (Sx' Sm' : St), f_X6_hall Sx a0 a1 a2 a3 = some (r, Sx') ∧ f_X7_hall Sm a0 a1 a2 a3 = some (r, Sm') ∧ Inv Sx' Sm'
def Sim_ofLamp (Inv : St → St → Prop) : Prop := ∀ (Sx Sm : St) (a0 a1 : Int32), Inv Sx Sm → ∃ (r : Int32) (Sx' Sm' : St), (f_X6_ofLamp Sx a0 a1 = some r ∧ Sx' = Sx) ∧ (f_X7_ofLamp Sm a0 a1 = some r ∧ Sm' = Sm) ∧ Inv Sx' Sm'
def Sim_ofSwitch (Inv : St → St → Prop) : Prop := ∀ (Sx Sm : St) (a0 a1 : Int32), Inv Sx Sm → ∃ (r : Int32) (Sx' Sm' : St), (f_X6_ofSwitch Sx a0 a1 = some r ∧ Sx' = Sx) ∧ (f_X7_ofSwitch Sm a0 a1 = some r ∧ Sm' = Sm) ∧ Inv Sx' Sm'
def Sim_shade (Inv : St → St → Prop) : Prop := ∀ (Sx Sm : St) (a0 a1 : Int32), Inv Sx Sm → ∃ (r : Int32) (Sx' Sm' : St), f_X6_shade Sx a0 a1 = some (r, Sx') ∧ f_X7_shade Sm a0 a1 = some (r, Sm') ∧ Inv Sx' Sm'
def Sim_turn (Inv : St → St → Prop) : Prop := ∀ (Sx Sm : St) (a0 a1 : Int32), Inv Sx Sm → ∃ (r : Int32) (Sx' Sm' : St), f_X6_turn Sx a0 a1 = some (r, Sx') ∧ f_X7_turn Sm a0 a1 = some (r, Sm') ∧ Inv Sx' Sm'
def Sim_wire (Inv : St → St → Prop) : Prop := ∀ (Sx Sm : St) (a0 a1 : Int32), Inv Sx Sm → ∃ (r : Int32) (Sx' Sm' : St), f_X6_wire Sx a0 a1 = some (r, Sx') ∧ f_X7_wire Sm a0 a1 = some (r, Sm') ∧ Inv Sx' Sm'
def Sim_press (Inv : St → St → Prop) : Prop := ∀ (Sx Sm : St) (a0 a1 : Int32), Inv Sx Sm → ∃ (r : Int32) (Sx' Sm' : St), f_X6_press Sx a0 a1 = some (r, Sx') ∧ f_X7_press Sm a0 a1 = some (r, Sm') ∧ Inv Sx' Sm'
def Sim_day (Inv : St → St → Prop) : Prop := ∀ (Sx Sm : St) (a0 a1 a2 a3 a4 : Int32), Inv Sx Sm → ∃ (r : Int32) (Sx' Sm' : St), f_X6_day Sx a0 a1 a2 a3 a4 = some (r, Sx') ∧ f_X7_day Sm a0 a1 a2 a3 a4 = some (r, Sm') ∧ Inv Sx' Sm'
def Sim_fewest (Inv : St → St → Prop) : Prop := ∀ (Sx Sm : St) (a0 a1 a2 a3 : Int32), Inv Sx Sm → ∃ (r : Int32) (Sx' Sm' : St), f_X6_fewest Sx a0 a1 a2 a3 = some (r, Sx') ∧ f_X7_fewest Sm a0 a1 a2 a3 = some (r, Sm') ∧ Inv Sx' Sm'
def Sim_halls (Inv : St → St → Prop) : Prop := ∀ (Sx Sm : St), Inv Sx Sm → ∃ (r : Int32) (Sx' Sm' : St), f_X6_halls Sx = some (r, Sx') ∧ f_X7_halls Sm = some (r, Sm') ∧ Inv Sx' Sm'
def Sim_alone (Inv : St → St → Prop) : Prop := ∀ (Sx Sm : St) (a0 : Int32), Inv Sx Sm → ∃ (r : Int32) (Sx' Sm' : St), f_X6_alone Sx a0 = some (r, Sx') ∧ f_X7_alone Sm a0 = some (r, Sm') ∧ Inv Sx' Sm'
def Sim_idle (Inv : St → St → Prop) : Prop := ∀ (Sx Sm : St), Inv Sx Sm → ∃ (r : Int32) (Sx' Sm' : St), f_X6_idle Sx = some (r, Sx') ∧ f_X7_idle Sm = some (r, Sm') ∧ Inv Sx' Sm'
def Sim_spare (Inv : St → St → Prop) : Prop := ∀ (Sx Sm : St), Inv Sx Sm → ∃ (r : Int32) (Sx' Sm' : St), f_X6_spare Sx = some (r, Sx') ∧ f_X7_spare Sm = some (r, Sm') ∧ Inv Sx' Sm'
def Sim_reading (Inv : St → St → Prop) : Prop := ∀ (Sx Sm : St) (a0 a1 a2 : Int32), Inv Sx Sm → ∃ (r : Int32) (Sx' Sm' : St), f_X6_reading Sx a0 a1 a2 = some (r, Sx') ∧ f_X7_reading Sm a0 a1 a2 = some (r, Sm') ∧ Inv Sx' Sm'
def Sim_back (Inv : St → St → Prop) : Prop := ∀ (Sx Sm : St) (a0 : Int32), Inv Sx Sm → ∃ (r : Int32) (Sx' Sm' : St), f_X6_back Sx a0 = some (r, Sx') ∧ f_X7_back Sm a0 = some (r, Sm') ∧ Inv Sx' Sm'
def Sim_turnings (Inv : St → St → Prop) : Prop := ∀ (Sx Sm : St) (a0 : Int32), Inv Sx Sm → ∃ (r : Int32) (Sx' Sm' : St), f_X6_turnings Sx a0 = some (r, Sx') ∧ f_X7_turnings Sm a0 = some (r, Sm') ∧ Inv Sx' Sm'
def Sim_kinds (Inv : St → St → Prop) : Prop := ∀ (Sx Sm : St) (a0 : Int32), Inv Sx Sm → ∃ (r : Int32) (Sx' Sm' : St), f_X6_kinds Sx a0 = some (r, Sx') ∧ f_X7_kinds Sm a0 = some (r, Sm') ∧ Inv Sx' Sm'
def Sim_shadings (Inv : St → St → Prop) : Prop := ∀ (Sx Sm : St) (a0 : Int32), Inv Sx Sm → ∃ (r : Int32) (Sx' Sm' : St), f_X6_shadings Sx a0 = some (r, Sx') ∧ f_X7_shadings Sm a0 = some (r, Sm') ∧ Inv Sx' Sm'
def Sim_odds (Inv : St → St → Prop) : Prop := ∀ (Sx Sm : St) (a0 a1 : Int32), Inv Sx Sm → ∃ (r : Int64) (Sx' Sm' : St), f_X6_odds Sx a0 a1 = some (r, Sx') ∧ f_X7_odds Sm a0 a1 = some (r, Sm') ∧ Inv Sx' Sm'
def Sim_sheet (Inv : St → St → Prop) : Prop := ∀ (Sx Sm : St) (a0 a1 a2 : Int32), Inv Sx Sm → ∃ (r : Int32) (Sx' Sm' : St), f_X6_sheet Sx a0 a1 a2 = some (r, Sx') ∧ f_X7_sheet Sm a0 a1 a2 = some (r, Sm') ∧ Inv Sx' Sm'
def Sim_lose (Inv : St → St → Prop) : Prop := ∀ (Sx Sm : St) (a0 : Int32), Inv Sx Sm → ∃ (r : Int32) (Sx' Sm' : St), f_X6_lose Sx a0 = some (r, Sx') ∧ f_X7_lose Sm a0 = some (r, Sm') ∧ Inv Sx' Sm'
def Sim_put (Inv : St → St → Prop) : Prop := ∀ (Sx Sm : St) (a0 a1 a2 : Int32), Inv Sx Sm → ∃ (r : Int32) (Sx' Sm' : St), f_X6_put Sx a0 a1 a2 = some (r, Sx') ∧ f_X7_put Sm a0 a1 a2 = some (r, Sm') ∧ Inv Sx' Sm'
def Sim_cell (Inv : St → St → Prop) : Prop := ∀ (Sx Sm : St) (a0 a1 a2 : Int32), Inv Sx Sm → ∃ (r : Int64) (Sx' Sm' : St), f_X6_cell Sx a0 a1 a2 = some (r, Sx') ∧ f_X7_cell Sm a0 a1 a2 = some (r, Sm') ∧ Inv Sx' Sm'
def Sim_copy (Inv : St → St → Prop) : Prop := ∀ (Sx Sm : St) (a0 a1 a2 a3 a4 : Int32), Inv Sx Sm → ∃ (r : Int32) (Sx' Sm' : St), f_X6_copy Sx a0 a1 a2 a3 a4 = some (r, Sx') ∧ f_X7_copy Sm a0 a1 a2 a3 a4 = some (r, Sm') ∧ Inv Sx' Sm'
def Sim_tell (Inv : St → St → Prop) : Prop := ∀ (Sx Sm : St) (a0 : Int32), Inv Sx Sm → ∃ (r : Int32) (Sx' Sm' : St), f_X6_tell Sx a0 = some (r, Sx') ∧ f_X7_tell Sm a0 = some (r, Sm') ∧ Inv Sx' Sm'
def Sim_feel (Inv : St → St → Prop) : Prop := ∀ (Sx Sm : St) (a0 : Int32), Inv Sx Sm → ∃ (r : Int32) (Sx' Sm' : St), f_X6_feel Sx a0 = some (r, Sx') ∧ f_X7_feel Sm a0 = some (r, Sm') ∧ Inv Sx' Sm'
def Sim_as (Inv : St → St → Prop) : Prop := ∀ (Sx Sm : St) (a0 a1 : Int32), Inv Sx Sm → ∃ (r : Int32) (Sx' Sm' : St), f_X6_as Sx a0 a1 = some (r, Sx') ∧ f_X7_as Sm a0 a1 = some (r, Sm') ∧ Inv Sx' Sm'
def Sim_trace (Inv : St → St → Prop) : Prop := ∀ (Sx Sm : St), Inv Sx Sm → ∃ (r : Int32) (Sx' Sm' : St), (f_X6_trace Sx = some r ∧ Sx' = Sx) ∧ (f_X7_trace Sm = some r ∧ Sm' = Sm) ∧ Inv Sx' Sm'
def Sim_fault (Inv : St → St → Prop) : Prop := ∀ (Sx Sm : St), Inv Sx Sm → ∃ (r : Int32) (Sx' Sm' : St), (f_X6_fault Sx = some r ∧ Sx' = Sx) ∧ (f_X7_fault Sm = some r ∧ Sm' = Sm) ∧ Inv Sx' Sm'
def Sim_many (Inv : St → St → Prop) : Prop := ∀ (Sx Sm : St) (a0 : Int32), Inv Sx Sm → ∃ (r : Int32) (Sx' Sm' : St), (f_X6_many Sx a0 = some r ∧ Sx' = Sx) ∧ (f_X7_many Sm a0 = some r ∧ Sm' = Sm) ∧ Inv Sx' Sm'
set_option maxHeartbeats 4000000 in
set_option maxRecDepth 100000 in
theorem law_hall {Inv : St → St → Prop} (hsim : Sim_hall Inv) {p : Program} {l : Launch} {e : Env} {s : State} {m : MethodId} {below : List Frame} {meth : Method} {c : Code} {b L : Nat} {xs : Nat → Int32} {G1 G2 : Geo} {Q : State → Prop} (Cx1 : Cx G1 RL code 4 p s m #[Value.ref b] c) (Cx2 : Cx G2 RL code 4 p s m #[Value.ref b] c) (hdis : ∀ i j, i < 37 → j < 18 → adr G1 i ≠ adr G2 j) (hX : va_X b L xs s s.heap) (hbl : b < s.heap.size) {x3 : Int32} (hv : ∀ j : Nat, 1 ≤ j → j ≤ 5 → vp_in (x3 + nI j) L) {ls : Array Slot} (hl : lv_has ls 4 [(0, .ref b), (1, .ref (adr G1 0)), (2, .ref (adr G2 0)), (3, .int x3)]) (Kn : ∀ (Sx Sm : St) (H : Heap) (locs : List Loc), Inv Sx Sm → HX G1 (fun q => s.heap.size ≤ q) s.heap Sx H locs → HM G2 (fun q => s.heap.size ≤ q) s.heap Sm H locs → W p l e room_1 s m #[Value.ref b] below meth c H locs 55 13311 Q (F0 m 1110 ls [])) {Sx Sm : St} (hI : Inv Sx Sm) {H : Heap} {locs : List Loc} (hWx : HX G1 (fun q => s.heap.size ≤ q) s.heap Sx H locs) (hWm : HM G2 (fun q => s.heap.size ≤ q) s.heap Sm H locs) : W p l e room_1 s m #[Value.ref b] below meth c H locs 55 13311 Q (F0 m 168 ls []) := by
  have hbA : ¬ (fun q : Nat => s.heap.size ≤ q) b := Nat.not_le.mpr hbl
  obtain ⟨hx, hb, -⟩ := id Cx1
  obtain ⟨r, Sx', Sm', e1, e2, hI⟩ := hsim Sx Sm (xs (ix (x3 + 1))) (xs (ix (x3 + 2))) (xs (ix (x3 + 3))) (xs (ix (x3 + 4))) hI
  refine lv_aload_n hx hb dL_law_168 rfl (lv_at hl 1 rfl) ?_
  refine lv_aload_n hx hb dL_law_169 rfl (lv_at hl 0 rfl) ?_
  refine lv_iload_n hx hb dL_law_170 rfl (lv_at hl 3 rfl) ?_
  refine lv_iconst (v := 1) hx hb dL_law_171 (by decide) ?_
  refine lv_iadd hx hb dL_law_172 ?_
  refine va_sld hx hb hX hbl hbA hWx.2.2.1 (hv 1 (by decide) (by decide)) dL_law_173 ?_
  refine lv_aload_n hx hb dL_law_174 rfl (lv_at hl 0 rfl) ?_
  refine lv_iload_n hx hb dL_law_175 rfl (lv_at hl 3 rfl) ?_
  refine lv_iconst (v := 2) hx hb dL_law_176 (by decide) ?_
  refine lv_iadd hx hb dL_law_177 ?_
  refine va_sld hx hb hX hbl hbA hWx.2.2.1 (hv 2 (by decide) (by decide)) dL_law_178 ?_
  refine lv_aload_n hx hb dL_law_179 rfl (lv_at hl 0 rfl) ?_
  refine lv_iload_n hx hb dL_law_180 rfl (lv_at hl 3 rfl) ?_
  refine lv_iconst (v := 3) hx hb dL_law_181 (by decide) ?_
  refine lv_iadd hx hb dL_law_182 ?_
  refine va_sld hx hb hX hbl hbA hWx.2.2.1 (hv 3 (by decide) (by decide)) dL_law_183 ?_
  refine lv_aload_n hx hb dL_law_184 rfl (lv_at hl 0 rfl) ?_
  refine lv_iload_n hx hb dL_law_185 rfl (lv_at hl 3 rfl) ?_
  refine lv_iconst (v := 4) hx hb dL_law_186 (by decide) ?_
  refine lv_iadd hx hb dL_law_187 ?_
  refine va_sld hx hb hX hbl hbA hWx.2.2.1 (hv 4 (by decide) (by decide)) dL_law_188 ?_
  refine lb_I hWx hWm hdis (x_runV (As := [.int (xs (ix (x3 + 1))), .int (xs (ix (x3 + 2))), .int (xs (ix (x3 + 3))), .int (xs (ix (x3 + 4)))]) (rest := []) Cx1 hWx (c_X6_hall l G1 e1 H.size) cv_RL_13 rv_X6 hl.1 rfl rfl ⟨Nat.le_of_ble_eq_true rfl, Nat.le_of_ble_eq_true rfl⟩ (Nat.le_of_ble_eq_true rfl) ⟨Nat.le_of_ble_eq_true rfl, Nat.le_of_ble_eq_true rfl⟩ dL_law_189) (fun H locs hWx hWm => ?_)
  refine lv_aload_n hx hb dL_law_192 rfl (lv_at hl 2 rfl) ?_
  refine lv_aload_n hx hb dL_law_193 rfl (lv_at hl 0 rfl) ?_
  refine lv_iload_n hx hb dL_law_194 rfl (lv_at hl 3 rfl) ?_
  refine lv_iconst (v := 1) hx hb dL_law_195 (by decide) ?_
  refine lv_iadd hx hb dL_law_196 ?_
  refine va_sld hx hb hX hbl hbA hWx.2.2.1 (hv 1 (by decide) (by decide)) dL_law_197 ?_
  refine lv_aload_n hx hb dL_law_198 rfl (lv_at hl 0 rfl) ?_
  refine lv_iload_n hx hb dL_law_199 rfl (lv_at hl 3 rfl) ?_
  refine lv_iconst (v := 2) hx hb dL_law_200 (by decide) ?_
  refine lv_iadd hx hb dL_law_201 ?_
  refine va_sld hx hb hX hbl hbA hWx.2.2.1 (hv 2 (by decide) (by decide)) dL_law_202 ?_
  refine lv_aload_n hx hb dL_law_203 rfl (lv_at hl 0 rfl) ?_
  refine lv_iload_n hx hb dL_law_204 rfl (lv_at hl 3 rfl) ?_
  refine lv_iconst (v := 3) hx hb dL_law_205 (by decide) ?_
  refine lv_iadd hx hb dL_law_206 ?_
  refine va_sld hx hb hX hbl hbA hWx.2.2.1 (hv 3 (by decide) (by decide)) dL_law_207 ?_
  refine lv_aload_n hx hb dL_law_208 rfl (lv_at hl 0 rfl) ?_
  refine lv_iload_n hx hb dL_law_209 rfl (lv_at hl 3 rfl) ?_
  refine lv_iconst (v := 4) hx hb dL_law_210 (by decide) ?_
  refine lv_iadd hx hb dL_law_211 ?_
  refine va_sld hx hb hX hbl hbA hWx.2.2.1 (hv 4 (by decide) (by decide)) dL_law_212 ?_
  refine lb_I hWm hWx (fun i j hi hj q => hdis j i hj hi q.symm) (x_runV (As := [.int (xs (ix (x3 + 1))), .int (xs (ix (x3 + 2))), .int (xs (ix (x3 + 3))), .int (xs (ix (x3 + 4)))]) (rest := [.int r]) Cx2 hWm (c_X7_hall l G2 e2 H.size) cv_RL_17 rv_X7 hl.1 rfl rfl ⟨Nat.le_of_ble_eq_true rfl, Nat.le_of_ble_eq_true rfl⟩ (Nat.le_of_ble_eq_true rfl) ⟨Nat.le_of_ble_eq_true rfl, Nat.le_of_ble_eq_true rfl⟩ dL_law_213) (fun H locs hWm hWx => ?_)
  exact lv_icmp_eq (tgt := 1110) hx hb dL_law_216 (by decide) (fun _ => Kn _ _ _ _ hI hWx hWm) (fun b => absurd rfl b)
set_option maxHeartbeats 4000000 in
set_option maxRecDepth 100000 in
theorem law_ofLamp {Inv : St → St → Prop} (hsim : Sim_ofLamp Inv) {p : Program} {l : Launch} {e : Env} {s : State} {m : MethodId} {below : List Frame} {meth : Method} {c : Code} {b L : Nat} {xs : Nat → Int32} {G1 G2 : Geo} {Q : State → Prop} (Cx1 : Cx G1 RL code 4 p s m #[Value.ref b] c) (Cx2 : Cx G2 RL code 4 p s m #[Value.ref b] c) (hdis : ∀ i j, i < 37 → j < 18 → adr G1 i ≠ adr G2 j) (hX : va_X b L xs s s.heap) (hbl : b < s.heap.size) {x3 : Int32} (hv : ∀ j : Nat, 1 ≤ j → j ≤ 5 → vp_in (x3 + nI j) L) {ls : Array Slot} (hl : lv_has ls 4 [(0, .ref b), (1, .ref (adr G1 0)), (2, .ref (adr G2 0)), (3, .int x3)]) (Kn : ∀ (Sx Sm : St) (H : Heap) (locs : List Loc), Inv Sx Sm → HX G1 (fun q => s.heap.size ≤ q) s.heap Sx H locs → HM G2 (fun q => s.heap.size ≤ q) s.heap Sm H locs → W p l e room_1 s m #[Value.ref b] below meth c H locs 55 13311 Q (F0 m 1110 ls [])) {Sx Sm : St} (hI : Inv Sx Sm) {H : Heap} {locs : List Loc} (hWx : HX G1 (fun q => s.heap.size ≤ q) s.heap Sx H locs) (hWm : HM G2 (fun q => s.heap.size ≤ q) s.heap Sm H locs) : W p l e room_1 s m #[Value.ref b] below meth c H locs 55 13311 Q (F0 m 221 ls []) := by
  have hbA : ¬ (fun q : Nat => s.heap.size ≤ q) b := Nat.not_le.mpr hbl
  obtain ⟨hx, hb, -⟩ := id Cx1
  obtain ⟨r, Sx', Sm', e1, e2, hI⟩ := hsim Sx Sm (xs (ix (x3 + 1))) (xs (ix (x3 + 2))) hI
  obtain ⟨e1, rfl⟩ := e1
  obtain ⟨e2, rfl⟩ := e2
  refine lv_aload_n hx hb dL_law_221 rfl (lv_at hl 1 rfl) ?_
  refine lv_aload_n hx hb dL_law_222 rfl (lv_at hl 0 rfl) ?_
  refine lv_iload_n hx hb dL_law_223 rfl (lv_at hl 3 rfl) ?_
  refine lv_iconst (v := 1) hx hb dL_law_224 (by decide) ?_
  refine lv_iadd hx hb dL_law_225 ?_
  refine va_sld hx hb hX hbl hbA hWx.2.2.1 (hv 1 (by decide) (by decide)) dL_law_226 ?_
  refine lv_aload_n hx hb dL_law_227 rfl (lv_at hl 0 rfl) ?_
  refine lv_iload_n hx hb dL_law_228 rfl (lv_at hl 3 rfl) ?_
  refine lv_iconst (v := 2) hx hb dL_law_229 (by decide) ?_
  refine lv_iadd hx hb dL_law_230 ?_
  refine va_sld hx hb hX hbl hbA hWx.2.2.1 (hv 2 (by decide) (by decide)) dL_law_231 ?_
  refine lb_I hWx hWm hdis (x_runV (As := [.int (xs (ix (x3 + 1))), .int (xs (ix (x3 + 2)))]) (rest := []) Cx1 hWx (c_X6_ofLamp l G1 e1 H.size) cv_RL_18 rv_X6 hl.1 rfl rfl ⟨Nat.le_of_ble_eq_true rfl, Nat.le_of_ble_eq_true rfl⟩ (Nat.le_of_ble_eq_true rfl) ⟨Nat.le_of_ble_eq_true rfl, Nat.le_of_ble_eq_true rfl⟩ dL_law_232) (fun H locs hWx hWm => ?_)
  refine lv_aload_n hx hb dL_law_235 rfl (lv_at hl 2 rfl) ?_
  refine lv_aload_n hx hb dL_law_236 rfl (lv_at hl 0 rfl) ?_
  refine lv_iload_n hx hb dL_law_237 rfl (lv_at hl 3 rfl) ?_
  refine lv_iconst (v := 1) hx hb dL_law_238 (by decide) ?_
  refine lv_iadd hx hb dL_law_239 ?_
  refine va_sld hx hb hX hbl hbA hWx.2.2.1 (hv 1 (by decide) (by decide)) dL_law_240 ?_
  refine lv_aload_n hx hb dL_law_241 rfl (lv_at hl 0 rfl) ?_
  refine lv_iload_n hx hb dL_law_242 rfl (lv_at hl 3 rfl) ?_
  refine lv_iconst (v := 2) hx hb dL_law_243 (by decide) ?_
  refine lv_iadd hx hb dL_law_244 ?_
  refine va_sld hx hb hX hbl hbA hWx.2.2.1 (hv 2 (by decide) (by decide)) dL_law_245 ?_
  refine lb_I hWm hWx (fun i j hi hj q => hdis j i hj hi q.symm) (x_runV (As := [.int (xs (ix (x3 + 1))), .int (xs (ix (x3 + 2)))]) (rest := [.int r]) Cx2 hWm (c_X7_ofLamp l G2 e2 H.size) cv_RL_22 rv_X7 hl.1 rfl rfl ⟨Nat.le_of_ble_eq_true rfl, Nat.le_of_ble_eq_true rfl⟩ (Nat.le_of_ble_eq_true rfl) ⟨Nat.le_of_ble_eq_true rfl, Nat.le_of_ble_eq_true rfl⟩ dL_law_246) (fun H locs hWm hWx => ?_)
  exact lv_icmp_eq (tgt := 1110) hx hb dL_law_249 (by decide) (fun _ => Kn _ _ _ _ hI hWx hWm) (fun b => absurd rfl b)
set_option maxHeartbeats 4000000 in
set_option maxRecDepth 100000 in
theorem law_ofSwitch {Inv : St → St → Prop} (hsim : Sim_ofSwitch Inv) {p : Program} {l : Launch} {e : Env} {s : State} {m : MethodId} {below : List Frame} {meth : Method} {c : Code} {b L : Nat} {xs : Nat → Int32} {G1 G2 : Geo} {Q : State → Prop} (Cx1 : Cx G1 RL code 4 p s m #[Value.ref b] c) (Cx2 : Cx G2 RL code 4 p s m #[Value.ref b] c) (hdis : ∀ i j, i < 37 → j < 18 → adr G1 i ≠ adr G2 j) (hX : va_X b L xs s s.heap) (hbl : b < s.heap.size) {x3 : Int32} (hv : ∀ j : Nat, 1 ≤ j → j ≤ 5 → vp_in (x3 + nI j) L) {ls : Array Slot} (hl : lv_has ls 4 [(0, .ref b), (1, .ref (adr G1 0)), (2, .ref (adr G2 0)), (3, .int x3)]) (Kn : ∀ (Sx Sm : St) (H : Heap) (locs : List Loc), Inv Sx Sm → HX G1 (fun q => s.heap.size ≤ q) s.heap Sx H locs → HM G2 (fun q => s.heap.size ≤ q) s.heap Sm H locs → W p l e room_1 s m #[Value.ref b] below meth c H locs 55 13311 Q (F0 m 1110 ls [])) {Sx Sm : St} (hI : Inv Sx Sm) {H : Heap} {locs : List Loc} (hWx : HX G1 (fun q => s.heap.size ≤ q) s.heap Sx H locs) (hWm : HM G2 (fun q => s.heap.size ≤ q) s.heap Sm H locs) : W p l e room_1 s m #[Value.ref b] below meth c H locs 55 13311 Q (F0 m 254 ls []) := by
  have hbA : ¬ (fun q : Nat => s.heap.size ≤ q) b := Nat.not_le.mpr hbl
  obtain ⟨hx, hb, -⟩ := id Cx1
  obtain ⟨r, Sx', Sm', e1, e2, hI⟩ := hsim Sx Sm (xs (ix (x3 + 1))) (xs (ix (x3 + 2))) hI
  obtain ⟨e1, rfl⟩ := e1
  obtain ⟨e2, rfl⟩ := e2
  refine lv_aload_n hx hb dL_law_254 rfl (lv_at hl 1 rfl) ?_
  refine lv_aload_n hx hb dL_law_255 rfl (lv_at hl 0 rfl) ?_
  refine lv_iload_n hx hb dL_law_256 rfl (lv_at hl 3 rfl) ?_
  refine lv_iconst (v := 1) hx hb dL_law_257 (by decide) ?_
  refine lv_iadd hx hb dL_law_258 ?_
  refine va_sld hx hb hX hbl hbA hWx.2.2.1 (hv 1 (by decide) (by decide)) dL_law_259 ?_
  refine lv_aload_n hx hb dL_law_260 rfl (lv_at hl 0 rfl) ?_
  refine lv_iload_n hx hb dL_law_261 rfl (lv_at hl 3 rfl) ?_
  refine lv_iconst (v := 2) hx hb dL_law_262 (by decide) ?_
  refine lv_iadd hx hb dL_law_263 ?_
  refine va_sld hx hb hX hbl hbA hWx.2.2.1 (hv 2 (by decide) (by decide)) dL_law_264 ?_
  refine lb_I hWx hWm hdis (x_runV (As := [.int (xs (ix (x3 + 1))), .int (xs (ix (x3 + 2)))]) (rest := []) Cx1 hWx (c_X6_ofSwitch l G1 e1 H.size) cv_RL_23 rv_X6 hl.1 rfl rfl ⟨Nat.le_of_ble_eq_true rfl, Nat.le_of_ble_eq_true rfl⟩ (Nat.le_of_ble_eq_true rfl) ⟨Nat.le_of_ble_eq_true rfl, Nat.le_of_ble_eq_true rfl⟩ dL_law_265) (fun H locs hWx hWm => ?_)
  refine lv_aload_n hx hb dL_law_268 rfl (lv_at hl 2 rfl) ?_
  refine lv_aload_n hx hb dL_law_269 rfl (lv_at hl 0 rfl) ?_
  refine lv_iload_n hx hb dL_law_270 rfl (lv_at hl 3 rfl) ?_
  refine lv_iconst (v := 1) hx hb dL_law_271 (by decide) ?_
  refine lv_iadd hx hb dL_law_272 ?_
  refine va_sld hx hb hX hbl hbA hWx.2.2.1 (hv 1 (by decide) (by decide)) dL_law_273 ?_
  refine lv_aload_n hx hb dL_law_274 rfl (lv_at hl 0 rfl) ?_
  refine lv_iload_n hx hb dL_law_275 rfl (lv_at hl 3 rfl) ?_
  refine lv_iconst (v := 2) hx hb dL_law_276 (by decide) ?_
  refine lv_iadd hx hb dL_law_277 ?_
  refine va_sld hx hb hX hbl hbA hWx.2.2.1 (hv 2 (by decide) (by decide)) dL_law_278 ?_
  refine lb_I hWm hWx (fun i j hi hj q => hdis j i hj hi q.symm) (x_runV (As := [.int (xs (ix (x3 + 1))), .int (xs (ix (x3 + 2)))]) (rest := [.int r]) Cx2 hWm (c_X7_ofSwitch l G2 e2 H.size) cv_RL_26 rv_X7 hl.1 rfl rfl ⟨Nat.le_of_ble_eq_true rfl, Nat.le_of_ble_eq_true rfl⟩ (Nat.le_of_ble_eq_true rfl) ⟨Nat.le_of_ble_eq_true rfl, Nat.le_of_ble_eq_true rfl⟩ dL_law_279) (fun H locs hWm hWx => ?_)
  exact lv_icmp_eq (tgt := 1110) hx hb dL_law_282 (by decide) (fun _ => Kn _ _ _ _ hI hWx hWm) (fun b => absurd rfl b)
set_option maxHeartbeats 4000000 in
set_option maxRecDepth 100000 in
theorem law_shade {Inv : St → St → Prop} (hsim : Sim_shade Inv) {p : Program} {l : Launch} {e : Env} {s : State} {m : MethodId} {below : List Frame} {meth : Method} {c : Code} {b L : Nat} {xs : Nat → Int32} {G1 G2 : Geo} {Q : State → Prop} (Cx1 : Cx G1 RL code 4 p s m #[Value.ref b] c) (Cx2 : Cx G2 RL code 4 p s m #[Value.ref b] c) (hdis : ∀ i j, i < 37 → j < 18 → adr G1 i ≠ adr G2 j) (hX : va_X b L xs s s.heap) (hbl : b < s.heap.size) {x3 : Int32} (hv : ∀ j : Nat, 1 ≤ j → j ≤ 5 → vp_in (x3 + nI j) L) {ls : Array Slot} (hl : lv_has ls 4 [(0, .ref b), (1, .ref (adr G1 0)), (2, .ref (adr G2 0)), (3, .int x3)]) (Kn : ∀ (Sx Sm : St) (H : Heap) (locs : List Loc), Inv Sx Sm → HX G1 (fun q => s.heap.size ≤ q) s.heap Sx H locs → HM G2 (fun q => s.heap.size ≤ q) s.heap Sm H locs → W p l e room_1 s m #[Value.ref b] below meth c H locs 55 13311 Q (F0 m 1110 ls [])) {Sx Sm : St} (hI : Inv Sx Sm) {H : Heap} {locs : List Loc} (hWx : HX G1 (fun q => s.heap.size ≤ q) s.heap Sx H locs) (hWm : HM G2 (fun q => s.heap.size ≤ q) s.heap Sm H locs) : W p l e room_1 s m #[Value.ref b] below meth c H locs 55 13311 Q (F0 m 287 ls []) := by
  have hbA : ¬ (fun q : Nat => s.heap.size ≤ q) b := Nat.not_le.mpr hbl
  obtain ⟨hx, hb, -⟩ := id Cx1
  obtain ⟨r, Sx', Sm', e1, e2, hI⟩ := hsim Sx Sm (xs (ix (x3 + 1))) (xs (ix (x3 + 2))) hI
  refine lv_aload_n hx hb dL_law_287 rfl (lv_at hl 1 rfl) ?_
  refine lv_aload_n hx hb dL_law_288 rfl (lv_at hl 0 rfl) ?_
  refine lv_iload_n hx hb dL_law_289 rfl (lv_at hl 3 rfl) ?_
  refine lv_iconst (v := 1) hx hb dL_law_290 (by decide) ?_
  refine lv_iadd hx hb dL_law_291 ?_
  refine va_sld hx hb hX hbl hbA hWx.2.2.1 (hv 1 (by decide) (by decide)) dL_law_292 ?_
  refine lv_aload_n hx hb dL_law_293 rfl (lv_at hl 0 rfl) ?_
  refine lv_iload_n hx hb dL_law_294 rfl (lv_at hl 3 rfl) ?_
  refine lv_iconst (v := 2) hx hb dL_law_295 (by decide) ?_
  refine lv_iadd hx hb dL_law_296 ?_
  refine va_sld hx hb hX hbl hbA hWx.2.2.1 (hv 2 (by decide) (by decide)) dL_law_297 ?_
  refine lb_I hWx hWm hdis (x_runV (As := [.int (xs (ix (x3 + 1))), .int (xs (ix (x3 + 2)))]) (rest := []) Cx1 hWx (c_X6_shade l G1 e1 H.size) cv_RL_27 rv_X6 hl.1 rfl rfl ⟨Nat.le_of_ble_eq_true rfl, Nat.le_of_ble_eq_true rfl⟩ (Nat.le_of_ble_eq_true rfl) ⟨Nat.le_of_ble_eq_true rfl, Nat.le_of_ble_eq_true rfl⟩ dL_law_298) (fun H locs hWx hWm => ?_)
  refine lv_aload_n hx hb dL_law_301 rfl (lv_at hl 2 rfl) ?_
  refine lv_aload_n hx hb dL_law_302 rfl (lv_at hl 0 rfl) ?_
  refine lv_iload_n hx hb dL_law_303 rfl (lv_at hl 3 rfl) ?_
  refine lv_iconst (v := 1) hx hb dL_law_304 (by decide) ?_
  refine lv_iadd hx hb dL_law_305 ?_
  refine va_sld hx hb hX hbl hbA hWx.2.2.1 (hv 1 (by decide) (by decide)) dL_law_306 ?_
  refine lv_aload_n hx hb dL_law_307 rfl (lv_at hl 0 rfl) ?_
  refine lv_iload_n hx hb dL_law_308 rfl (lv_at hl 3 rfl) ?_
  refine lv_iconst (v := 2) hx hb dL_law_309 (by decide) ?_
  refine lv_iadd hx hb dL_law_310 ?_
  refine va_sld hx hb hX hbl hbA hWx.2.2.1 (hv 2 (by decide) (by decide)) dL_law_311 ?_
  refine lb_I hWm hWx (fun i j hi hj q => hdis j i hj hi q.symm) (x_runV (As := [.int (xs (ix (x3 + 1))), .int (xs (ix (x3 + 2)))]) (rest := [.int r]) Cx2 hWm (c_X7_shade l G2 e2 H.size) cv_RL_30 rv_X7 hl.1 rfl rfl ⟨Nat.le_of_ble_eq_true rfl, Nat.le_of_ble_eq_true rfl⟩ (Nat.le_of_ble_eq_true rfl) ⟨Nat.le_of_ble_eq_true rfl, Nat.le_of_ble_eq_true rfl⟩ dL_law_312) (fun H locs hWm hWx => ?_)
  exact lv_icmp_eq (tgt := 1110) hx hb dL_law_315 (by decide) (fun _ => Kn _ _ _ _ hI hWx hWm) (fun b => absurd rfl b)
set_option maxHeartbeats 4000000 in
set_option maxRecDepth 100000 in
theorem law_turn {Inv : St → St → Prop} (hsim : Sim_turn Inv) {p : Program} {l : Launch} {e : Env} {s : State} {m : MethodId} {below : List Frame} {meth : Method} {c : Code} {b L : Nat} {xs : Nat → Int32} {G1 G2 : Geo} {Q : State → Prop} (Cx1 : Cx G1 RL code 4 p s m #[Value.ref b] c) (Cx2 : Cx G2 RL code 4 p s m #[Value.ref b] c) (hdis : ∀ i j, i < 37 → j < 18 → adr G1 i ≠ adr G2 j) (hX : va_X b L xs s s.heap) (hbl : b < s.heap.size) {x3 : Int32} (hv : ∀ j : Nat, 1 ≤ j → j ≤ 5 → vp_in (x3 + nI j) L) {ls : Array Slot} (hl : lv_has ls 4 [(0, .ref b), (1, .ref (adr G1 0)), (2, .ref (adr G2 0)), (3, .int x3)]) (Kn : ∀ (Sx Sm : St) (H : Heap) (locs : List Loc), Inv Sx Sm → HX G1 (fun q => s.heap.size ≤ q) s.heap Sx H locs → HM G2 (fun q => s.heap.size ≤ q) s.heap Sm H locs → W p l e room_1 s m #[Value.ref b] below meth c H locs 55 13311 Q (F0 m 1110 ls [])) {Sx Sm : St} (hI : Inv Sx Sm) {H : Heap} {locs : List Loc} (hWx : HX G1 (fun q => s.heap.size ≤ q) s.heap Sx H locs) (hWm : HM G2 (fun q => s.heap.size ≤ q) s.heap Sm H locs) : W p l e room_1 s m #[Value.ref b] below meth c H locs 55 13311 Q (F0 m 320 ls []) := by
  have hbA : ¬ (fun q : Nat => s.heap.size ≤ q) b := Nat.not_le.mpr hbl
  obtain ⟨hx, hb, -⟩ := id Cx1
  obtain ⟨r, Sx', Sm', e1, e2, hI⟩ := hsim Sx Sm (xs (ix (x3 + 1))) (xs (ix (x3 + 2))) hI
  refine lv_aload_n hx hb dL_law_320 rfl (lv_at hl 1 rfl) ?_
  refine lv_aload_n hx hb dL_law_321 rfl (lv_at hl 0 rfl) ?_
  refine lv_iload_n hx hb dL_law_322 rfl (lv_at hl 3 rfl) ?_
  refine lv_iconst (v := 1) hx hb dL_law_323 (by decide) ?_
  refine lv_iadd hx hb dL_law_324 ?_
  refine va_sld hx hb hX hbl hbA hWx.2.2.1 (hv 1 (by decide) (by decide)) dL_law_325 ?_
  refine lv_aload_n hx hb dL_law_326 rfl (lv_at hl 0 rfl) ?_
  refine lv_iload_n hx hb dL_law_327 rfl (lv_at hl 3 rfl) ?_
  refine lv_iconst (v := 2) hx hb dL_law_328 (by decide) ?_
  refine lv_iadd hx hb dL_law_329 ?_
  refine va_sld hx hb hX hbl hbA hWx.2.2.1 (hv 2 (by decide) (by decide)) dL_law_330 ?_
  refine lb_I hWx hWm hdis (x_runV (As := [.int (xs (ix (x3 + 1))), .int (xs (ix (x3 + 2)))]) (rest := []) Cx1 hWx (c_X6_turn l G1 e1 H.size) cv_RL_31 rv_X6 hl.1 rfl rfl ⟨Nat.le_of_ble_eq_true rfl, Nat.le_of_ble_eq_true rfl⟩ (Nat.le_of_ble_eq_true rfl) ⟨Nat.le_of_ble_eq_true rfl, Nat.le_of_ble_eq_true rfl⟩ dL_law_331) (fun H locs hWx hWm => ?_)
  refine lv_aload_n hx hb dL_law_334 rfl (lv_at hl 2 rfl) ?_
  refine lv_aload_n hx hb dL_law_335 rfl (lv_at hl 0 rfl) ?_
  refine lv_iload_n hx hb dL_law_336 rfl (lv_at hl 3 rfl) ?_
  refine lv_iconst (v := 1) hx hb dL_law_337 (by decide) ?_
  refine lv_iadd hx hb dL_law_338 ?_
  refine va_sld hx hb hX hbl hbA hWx.2.2.1 (hv 1 (by decide) (by decide)) dL_law_339 ?_
  refine lv_aload_n hx hb dL_law_340 rfl (lv_at hl 0 rfl) ?_
  refine lv_iload_n hx hb dL_law_341 rfl (lv_at hl 3 rfl) ?_
  refine lv_iconst (v := 2) hx hb dL_law_342 (by decide) ?_
  refine lv_iadd hx hb dL_law_343 ?_
  refine va_sld hx hb hX hbl hbA hWx.2.2.1 (hv 2 (by decide) (by decide)) dL_law_344 ?_
  refine lb_I hWm hWx (fun i j hi hj q => hdis j i hj hi q.symm) (x_runV (As := [.int (xs (ix (x3 + 1))), .int (xs (ix (x3 + 2)))]) (rest := [.int r]) Cx2 hWm (c_X7_turn l G2 e2 H.size) cv_RL_34 rv_X7 hl.1 rfl rfl ⟨Nat.le_of_ble_eq_true rfl, Nat.le_of_ble_eq_true rfl⟩ (Nat.le_of_ble_eq_true rfl) ⟨Nat.le_of_ble_eq_true rfl, Nat.le_of_ble_eq_true rfl⟩ dL_law_345) (fun H locs hWm hWx => ?_)
  exact lv_icmp_eq (tgt := 1110) hx hb dL_law_348 (by decide) (fun _ => Kn _ _ _ _ hI hWx hWm) (fun b => absurd rfl b)
set_option maxHeartbeats 4000000 in
set_option maxRecDepth 100000 in
theorem law_wire {Inv : St → St → Prop} (hsim : Sim_wire Inv) {p : Program} {l : Launch} {e : Env} {s : State} {m : MethodId} {below : List Frame} {meth : Method} {c : Code} {b L : Nat} {xs : Nat → Int32} {G1 G2 : Geo} {Q : State → Prop} (Cx1 : Cx G1 RL code 4 p s m #[Value.ref b] c) (Cx2 : Cx G2 RL code 4 p s m #[Value.ref b] c) (hdis : ∀ i j, i < 37 → j < 18 → adr G1 i ≠ adr G2 j) (hX : va_X b L xs s s.heap) (hbl : b < s.heap.size) {x3 : Int32} (hv : ∀ j : Nat, 1 ≤ j → j ≤ 5 → vp_in (x3 + nI j) L) {ls : Array Slot} (hl : lv_has ls 4 [(0, .ref b), (1, .ref (adr G1 0)), (2, .ref (adr G2 0)), (3, .int x3)]) (Kn : ∀ (Sx Sm : St) (H : Heap) (locs : List Loc), Inv Sx Sm → HX G1 (fun q => s.heap.size ≤ q) s.heap Sx H locs → HM G2 (fun q => s.heap.size ≤ q) s.heap Sm H locs → W p l e room_1 s m #[Value.ref b] below meth c H locs 55 13311 Q (F0 m 1110 ls [])) {Sx Sm : St} (hI : Inv Sx Sm) {H : Heap} {locs : List Loc} (hWx : HX G1 (fun q => s.heap.size ≤ q) s.heap Sx H locs) (hWm : HM G2 (fun q => s.heap.size ≤ q) s.heap Sm H locs) : W p l e room_1 s m #[Value.ref b] below meth c H locs 55 13311 Q (F0 m 353 ls []) := by
  have hbA : ¬ (fun q : Nat => s.heap.size ≤ q) b := Nat.not_le.mpr hbl
  obtain ⟨hx, hb, -⟩ := id Cx1
  obtain ⟨r, Sx', Sm', e1, e2, hI⟩ := hsim Sx Sm (xs (ix (x3 + 1))) (xs (ix (x3 + 2))) hI
  refine lv_aload_n hx hb dL_law_353 rfl (lv_at hl 1 rfl) ?_
  refine lv_aload_n hx hb dL_law_354 rfl (lv_at hl 0 rfl) ?_
  refine lv_iload_n hx hb dL_law_355 rfl (lv_at hl 3 rfl) ?_
  refine lv_iconst (v := 1) hx hb dL_law_356 (by decide) ?_
  refine lv_iadd hx hb dL_law_357 ?_
  refine va_sld hx hb hX hbl hbA hWx.2.2.1 (hv 1 (by decide) (by decide)) dL_law_358 ?_
  refine lv_aload_n hx hb dL_law_359 rfl (lv_at hl 0 rfl) ?_
  refine lv_iload_n hx hb dL_law_360 rfl (lv_at hl 3 rfl) ?_
  refine lv_iconst (v := 2) hx hb dL_law_361 (by decide) ?_
  refine lv_iadd hx hb dL_law_362 ?_
  refine va_sld hx hb hX hbl hbA hWx.2.2.1 (hv 2 (by decide) (by decide)) dL_law_363 ?_
  refine lb_I hWx hWm hdis (x_runV (As := [.int (xs (ix (x3 + 1))), .int (xs (ix (x3 + 2)))]) (rest := []) Cx1 hWx (c_X6_wire l G1 e1 H.size) cv_RL_35 rv_X6 hl.1 rfl rfl ⟨Nat.le_of_ble_eq_true rfl, Nat.le_of_ble_eq_true rfl⟩ (Nat.le_of_ble_eq_true rfl) ⟨Nat.le_of_ble_eq_true rfl, Nat.le_of_ble_eq_true rfl⟩ dL_law_364) (fun H locs hWx hWm => ?_)
  refine lv_aload_n hx hb dL_law_367 rfl (lv_at hl 2 rfl) ?_
  refine lv_aload_n hx hb dL_law_368 rfl (lv_at hl 0 rfl) ?_
  refine lv_iload_n hx hb dL_law_369 rfl (lv_at hl 3 rfl) ?_
  refine lv_iconst (v := 1) hx hb dL_law_370 (by decide) ?_
  refine lv_iadd hx hb dL_law_371 ?_
  refine va_sld hx hb hX hbl hbA hWx.2.2.1 (hv 1 (by decide) (by decide)) dL_law_372 ?_
  refine lv_aload_n hx hb dL_law_373 rfl (lv_at hl 0 rfl) ?_
  refine lv_iload_n hx hb dL_law_374 rfl (lv_at hl 3 rfl) ?_
  refine lv_iconst (v := 2) hx hb dL_law_375 (by decide) ?_
  refine lv_iadd hx hb dL_law_376 ?_
  refine va_sld hx hb hX hbl hbA hWx.2.2.1 (hv 2 (by decide) (by decide)) dL_law_377 ?_
  refine lb_I hWm hWx (fun i j hi hj q => hdis j i hj hi q.symm) (x_runV (As := [.int (xs (ix (x3 + 1))), .int (xs (ix (x3 + 2)))]) (rest := [.int r]) Cx2 hWm (c_X7_wire l G2 e2 H.size) cv_RL_38 rv_X7 hl.1 rfl rfl ⟨Nat.le_of_ble_eq_true rfl, Nat.le_of_ble_eq_true rfl⟩ (Nat.le_of_ble_eq_true rfl) ⟨Nat.le_of_ble_eq_true rfl, Nat.le_of_ble_eq_true rfl⟩ dL_law_378) (fun H locs hWm hWx => ?_)
  exact lv_icmp_eq (tgt := 1110) hx hb dL_law_381 (by decide) (fun _ => Kn _ _ _ _ hI hWx hWm) (fun b => absurd rfl b)
set_option maxHeartbeats 4000000 in
set_option maxRecDepth 100000 in
theorem law_press {Inv : St → St → Prop} (hsim : Sim_press Inv) {p : Program} {l : Launch} {e : Env} {s : State} {m : MethodId} {below : List Frame} {meth : Method} {c : Code} {b L : Nat} {xs : Nat → Int32} {G1 G2 : Geo} {Q : State → Prop} (Cx1 : Cx G1 RL code 4 p s m #[Value.ref b] c) (Cx2 : Cx G2 RL code 4 p s m #[Value.ref b] c) (hdis : ∀ i j, i < 37 → j < 18 → adr G1 i ≠ adr G2 j) (hX : va_X b L xs s s.heap) (hbl : b < s.heap.size) {x3 : Int32} (hv : ∀ j : Nat, 1 ≤ j → j ≤ 5 → vp_in (x3 + nI j) L) {ls : Array Slot} (hl : lv_has ls 4 [(0, .ref b), (1, .ref (adr G1 0)), (2, .ref (adr G2 0)), (3, .int x3)]) (Kn : ∀ (Sx Sm : St) (H : Heap) (locs : List Loc), Inv Sx Sm → HX G1 (fun q => s.heap.size ≤ q) s.heap Sx H locs → HM G2 (fun q => s.heap.size ≤ q) s.heap Sm H locs → W p l e room_1 s m #[Value.ref b] below meth c H locs 55 13311 Q (F0 m 1110 ls [])) {Sx Sm : St} (hI : Inv Sx Sm) {H : Heap} {locs : List Loc} (hWx : HX G1 (fun q => s.heap.size ≤ q) s.heap Sx H locs) (hWm : HM G2 (fun q => s.heap.size ≤ q) s.heap Sm H locs) : W p l e room_1 s m #[Value.ref b] below meth c H locs 55 13311 Q (F0 m 386 ls []) := by
  have hbA : ¬ (fun q : Nat => s.heap.size ≤ q) b := Nat.not_le.mpr hbl
  obtain ⟨hx, hb, -⟩ := id Cx1
  obtain ⟨r, Sx', Sm', e1, e2, hI⟩ := hsim Sx Sm (xs (ix (x3 + 1))) (xs (ix (x3 + 2))) hI
  refine lv_aload_n hx hb dL_law_386 rfl (lv_at hl 1 rfl) ?_
  refine lv_aload_n hx hb dL_law_387 rfl (lv_at hl 0 rfl) ?_
  refine lv_iload_n hx hb dL_law_388 rfl (lv_at hl 3 rfl) ?_
  refine lv_iconst (v := 1) hx hb dL_law_389 (by decide) ?_
  refine lv_iadd hx hb dL_law_390 ?_
  refine va_sld hx hb hX hbl hbA hWx.2.2.1 (hv 1 (by decide) (by decide)) dL_law_391 ?_
  refine lv_aload_n hx hb dL_law_392 rfl (lv_at hl 0 rfl) ?_
  refine lv_iload_n hx hb dL_law_393 rfl (lv_at hl 3 rfl) ?_
  refine lv_iconst (v := 2) hx hb dL_law_394 (by decide) ?_
  refine lv_iadd hx hb dL_law_395 ?_
  refine va_sld hx hb hX hbl hbA hWx.2.2.1 (hv 2 (by decide) (by decide)) dL_law_396 ?_
  refine lb_I hWx hWm hdis (x_runV (As := [.int (xs (ix (x3 + 1))), .int (xs (ix (x3 + 2)))]) (rest := []) Cx1 hWx (c_X6_press l G1 e1 H.size) cv_RL_39 rv_X6 hl.1 rfl rfl ⟨Nat.le_of_ble_eq_true rfl, Nat.le_of_ble_eq_true rfl⟩ (Nat.le_of_ble_eq_true rfl) ⟨Nat.le_of_ble_eq_true rfl, Nat.le_of_ble_eq_true rfl⟩ dL_law_397) (fun H locs hWx hWm => ?_)
  refine lv_aload_n hx hb dL_law_400 rfl (lv_at hl 2 rfl) ?_
  refine lv_aload_n hx hb dL_law_401 rfl (lv_at hl 0 rfl) ?_
  refine lv_iload_n hx hb dL_law_402 rfl (lv_at hl 3 rfl) ?_
  refine lv_iconst (v := 1) hx hb dL_law_403 (by decide) ?_
  refine lv_iadd hx hb dL_law_404 ?_
  refine va_sld hx hb hX hbl hbA hWx.2.2.1 (hv 1 (by decide) (by decide)) dL_law_405 ?_
  refine lv_aload_n hx hb dL_law_406 rfl (lv_at hl 0 rfl) ?_
  refine lv_iload_n hx hb dL_law_407 rfl (lv_at hl 3 rfl) ?_
  refine lv_iconst (v := 2) hx hb dL_law_408 (by decide) ?_
  refine lv_iadd hx hb dL_law_409 ?_
  refine va_sld hx hb hX hbl hbA hWx.2.2.1 (hv 2 (by decide) (by decide)) dL_law_410 ?_
  refine lb_I hWm hWx (fun i j hi hj q => hdis j i hj hi q.symm) (x_runV (As := [.int (xs (ix (x3 + 1))), .int (xs (ix (x3 + 2)))]) (rest := [.int r]) Cx2 hWm (c_X7_press l G2 e2 H.size) cv_RL_42 rv_X7 hl.1 rfl rfl ⟨Nat.le_of_ble_eq_true rfl, Nat.le_of_ble_eq_true rfl⟩ (Nat.le_of_ble_eq_true rfl) ⟨Nat.le_of_ble_eq_true rfl, Nat.le_of_ble_eq_true rfl⟩ dL_law_411) (fun H locs hWm hWx => ?_)
  exact lv_icmp_eq (tgt := 1110) hx hb dL_law_414 (by decide) (fun _ => Kn _ _ _ _ hI hWx hWm) (fun b => absurd rfl b)
set_option maxHeartbeats 4000000 in
set_option maxRecDepth 100000 in
theorem law_day {Inv : St → St → Prop} (hsim : Sim_day Inv) {p : Program} {l : Launch} {e : Env} {s : State} {m : MethodId} {below : List Frame} {meth : Method} {c : Code} {b L : Nat} {xs : Nat → Int32} {G1 G2 : Geo} {Q : State → Prop} (Cx1 : Cx G1 RL code 4 p s m #[Value.ref b] c) (Cx2 : Cx G2 RL code 4 p s m #[Value.ref b] c) (hdis : ∀ i j, i < 37 → j < 18 → adr G1 i ≠ adr G2 j) (hX : va_X b L xs s s.heap) (hbl : b < s.heap.size) {x3 : Int32} (hv : ∀ j : Nat, 1 ≤ j → j ≤ 5 → vp_in (x3 + nI j) L) {ls : Array Slot} (hl : lv_has ls 4 [(0, .ref b), (1, .ref (adr G1 0)), (2, .ref (adr G2 0)), (3, .int x3)]) (Kn : ∀ (Sx Sm : St) (H : Heap) (locs : List Loc), Inv Sx Sm → HX G1 (fun q => s.heap.size ≤ q) s.heap Sx H locs → HM G2 (fun q => s.heap.size ≤ q) s.heap Sm H locs → W p l e room_1 s m #[Value.ref b] below meth c H locs 55 13311 Q (F0 m 1110 ls [])) {Sx Sm : St} (hI : Inv Sx Sm) {H : Heap} {locs : List Loc} (hWx : HX G1 (fun q => s.heap.size ≤ q) s.heap Sx H locs) (hWm : HM G2 (fun q => s.heap.size ≤ q) s.heap Sm H locs) : W p l e room_1 s m #[Value.ref b] below meth c H locs 55 13311 Q (F0 m 419 ls []) := by
  have hbA : ¬ (fun q : Nat => s.heap.size ≤ q) b := Nat.not_le.mpr hbl
  obtain ⟨hx, hb, -⟩ := id Cx1
  obtain ⟨r, Sx', Sm', e1, e2, hI⟩ := hsim Sx Sm (xs (ix (x3 + 1))) (xs (ix (x3 + 2))) (xs (ix (x3 + 3))) (xs (ix (x3 + 4))) (xs (ix (x3 + 5))) hI
  refine lv_aload_n hx hb dL_law_419 rfl (lv_at hl 1 rfl) ?_
  refine lv_aload_n hx hb dL_law_420 rfl (lv_at hl 0 rfl) ?_
  refine lv_iload_n hx hb dL_law_421 rfl (lv_at hl 3 rfl) ?_
  refine lv_iconst (v := 1) hx hb dL_law_422 (by decide) ?_
  refine lv_iadd hx hb dL_law_423 ?_
  refine va_sld hx hb hX hbl hbA hWx.2.2.1 (hv 1 (by decide) (by decide)) dL_law_424 ?_
  refine lv_aload_n hx hb dL_law_425 rfl (lv_at hl 0 rfl) ?_
  refine lv_iload_n hx hb dL_law_426 rfl (lv_at hl 3 rfl) ?_
  refine lv_iconst (v := 2) hx hb dL_law_427 (by decide) ?_
  refine lv_iadd hx hb dL_law_428 ?_
  refine va_sld hx hb hX hbl hbA hWx.2.2.1 (hv 2 (by decide) (by decide)) dL_law_429 ?_
  refine lv_aload_n hx hb dL_law_430 rfl (lv_at hl 0 rfl) ?_
  refine lv_iload_n hx hb dL_law_431 rfl (lv_at hl 3 rfl) ?_
  refine lv_iconst (v := 3) hx hb dL_law_432 (by decide) ?_
  refine lv_iadd hx hb dL_law_433 ?_
  refine va_sld hx hb hX hbl hbA hWx.2.2.1 (hv 3 (by decide) (by decide)) dL_law_434 ?_
  refine lv_aload_n hx hb dL_law_435 rfl (lv_at hl 0 rfl) ?_
  refine lv_iload_n hx hb dL_law_436 rfl (lv_at hl 3 rfl) ?_
  refine lv_iconst (v := 4) hx hb dL_law_437 (by decide) ?_
  refine lv_iadd hx hb dL_law_438 ?_
  refine va_sld hx hb hX hbl hbA hWx.2.2.1 (hv 4 (by decide) (by decide)) dL_law_439 ?_
  refine lv_aload_n hx hb dL_law_440 rfl (lv_at hl 0 rfl) ?_
  refine lv_iload_n hx hb dL_law_441 rfl (lv_at hl 3 rfl) ?_
  refine lv_iconst (v := 5) hx hb dL_law_442 (by decide) ?_
  refine lv_iadd hx hb dL_law_443 ?_
  refine va_sld hx hb hX hbl hbA hWx.2.2.1 (hv 5 (by decide) (by decide)) dL_law_444 ?_
  refine lb_I hWx hWm hdis (x_runV (As := [.int (xs (ix (x3 + 1))), .int (xs (ix (x3 + 2))), .int (xs (ix (x3 + 3))), .int (xs (ix (x3 + 4))), .int (xs (ix (x3 + 5)))]) (rest := []) Cx1 hWx (c_X6_day l G1 e1 H.size) cv_RL_43 rv_X6 hl.1 rfl rfl ⟨Nat.le_of_ble_eq_true rfl, Nat.le_of_ble_eq_true rfl⟩ (Nat.le_of_ble_eq_true rfl) ⟨Nat.le_of_ble_eq_true rfl, Nat.le_of_ble_eq_true rfl⟩ dL_law_445) (fun H locs hWx hWm => ?_)
  refine lv_aload_n hx hb dL_law_448 rfl (lv_at hl 2 rfl) ?_
  refine lv_aload_n hx hb dL_law_449 rfl (lv_at hl 0 rfl) ?_
  refine lv_iload_n hx hb dL_law_450 rfl (lv_at hl 3 rfl) ?_
  refine lv_iconst (v := 1) hx hb dL_law_451 (by decide) ?_
  refine lv_iadd hx hb dL_law_452 ?_
  refine va_sld hx hb hX hbl hbA hWx.2.2.1 (hv 1 (by decide) (by decide)) dL_law_453 ?_
  refine lv_aload_n hx hb dL_law_454 rfl (lv_at hl 0 rfl) ?_
  refine lv_iload_n hx hb dL_law_455 rfl (lv_at hl 3 rfl) ?_
  refine lv_iconst (v := 2) hx hb dL_law_456 (by decide) ?_
  refine lv_iadd hx hb dL_law_457 ?_
  refine va_sld hx hb hX hbl hbA hWx.2.2.1 (hv 2 (by decide) (by decide)) dL_law_458 ?_
  refine lv_aload_n hx hb dL_law_459 rfl (lv_at hl 0 rfl) ?_
  refine lv_iload_n hx hb dL_law_460 rfl (lv_at hl 3 rfl) ?_
  refine lv_iconst (v := 3) hx hb dL_law_461 (by decide) ?_
  refine lv_iadd hx hb dL_law_462 ?_
  refine va_sld hx hb hX hbl hbA hWx.2.2.1 (hv 3 (by decide) (by decide)) dL_law_463 ?_
  refine lv_aload_n hx hb dL_law_464 rfl (lv_at hl 0 rfl) ?_
  refine lv_iload_n hx hb dL_law_465 rfl (lv_at hl 3 rfl) ?_
  refine lv_iconst (v := 4) hx hb dL_law_466 (by decide) ?_
  refine lv_iadd hx hb dL_law_467 ?_
  refine va_sld hx hb hX hbl hbA hWx.2.2.1 (hv 4 (by decide) (by decide)) dL_law_468 ?_
  refine lv_aload_n hx hb dL_law_469 rfl (lv_at hl 0 rfl) ?_
  refine lv_iload_n hx hb dL_law_470 rfl (lv_at hl 3 rfl) ?_
  refine lv_iconst (v := 5) hx hb dL_law_471 (by decide) ?_
  refine lv_iadd hx hb dL_law_472 ?_
  refine va_sld hx hb hX hbl hbA hWx.2.2.1 (hv 5 (by decide) (by decide)) dL_law_473 ?_
  refine lb_I hWm hWx (fun i j hi hj q => hdis j i hj hi q.symm) (x_runV (As := [.int (xs (ix (x3 + 1))), .int (xs (ix (x3 + 2))), .int (xs (ix (x3 + 3))), .int (xs (ix (x3 + 4))), .int (xs (ix (x3 + 5)))]) (rest := [.int r]) Cx2 hWm (c_X7_day l G2 e2 H.size) cv_RL_47 rv_X7 hl.1 rfl rfl ⟨Nat.le_of_ble_eq_true rfl, Nat.le_of_ble_eq_true rfl⟩ (Nat.le_of_ble_eq_true rfl) ⟨Nat.le_of_ble_eq_true rfl, Nat.le_of_ble_eq_true rfl⟩ dL_law_474) (fun H locs hWm hWx => ?_)
  exact lv_icmp_eq (tgt := 1110) hx hb dL_law_477 (by decide) (fun _ => Kn _ _ _ _ hI hWx hWm) (fun b => absurd rfl b)
set_option maxHeartbeats 4000000 in
set_option maxRecDepth 100000 in
theorem law_fewest {Inv : St → St → Prop} (hsim : Sim_fewest Inv) {p : Program} {l : Launch} {e : Env} {s : State} {m : MethodId} {below : List Frame} {meth : Method} {c : Code} {b L : Nat} {xs : Nat → Int32} {G1 G2 : Geo} {Q : State → Prop} (Cx1 : Cx G1 RL code 4 p s m #[Value.ref b] c) (Cx2 : Cx G2 RL code 4 p s m #[Value.ref b] c) (hdis : ∀ i j, i < 37 → j < 18 → adr G1 i ≠ adr G2 j) (hX : va_X b L xs s s.heap) (hbl : b < s.heap.size) {x3 : Int32} (hv : ∀ j : Nat, 1 ≤ j → j ≤ 5 → vp_in (x3 + nI j) L) {ls : Array Slot} (hl : lv_has ls 4 [(0, .ref b), (1, .ref (adr G1 0)), (2, .ref (adr G2 0)), (3, .int x3)]) (Kn : ∀ (Sx Sm : St) (H : Heap) (locs : List Loc), Inv Sx Sm → HX G1 (fun q => s.heap.size ≤ q) s.heap Sx H locs → HM G2 (fun q => s.heap.size ≤ q) s.heap Sm H locs → W p l e room_1 s m #[Value.ref b] below meth c H locs 55 13311 Q (F0 m 1110 ls [])) {Sx Sm : St} (hI : Inv Sx Sm) {H : Heap} {locs : List Loc} (hWx : HX G1 (fun q => s.heap.size ≤ q) s.heap Sx H locs) (hWm : HM G2 (fun q => s.heap.size ≤ q) s.heap Sm H locs) : W p l e room_1 s m #[Value.ref b] below meth c H locs 55 13311 Q (F0 m 482 ls []) := by
  have hbA : ¬ (fun q : Nat => s.heap.size ≤ q) b := Nat.not_le.mpr hbl
  obtain ⟨hx, hb, -⟩ := id Cx1
  obtain ⟨r, Sx', Sm', e1, e2, hI⟩ := hsim Sx Sm (xs (ix (x3 + 1))) (xs (ix (x3 + 2))) (xs (ix (x3 + 3))) (xs (ix (x3 + 4))) hI
  refine lv_aload_n hx hb dL_law_482 rfl (lv_at hl 1 rfl) ?_
  refine lv_aload_n hx hb dL_law_483 rfl (lv_at hl 0 rfl) ?_
  refine lv_iload_n hx hb dL_law_484 rfl (lv_at hl 3 rfl) ?_
  refine lv_iconst (v := 1) hx hb dL_law_485 (by decide) ?_
  refine lv_iadd hx hb dL_law_486 ?_
  refine va_sld hx hb hX hbl hbA hWx.2.2.1 (hv 1 (by decide) (by decide)) dL_law_487 ?_
  refine lv_aload_n hx hb dL_law_488 rfl (lv_at hl 0 rfl) ?_
  refine lv_iload_n hx hb dL_law_489 rfl (lv_at hl 3 rfl) ?_
  refine lv_iconst (v := 2) hx hb dL_law_490 (by decide) ?_
  refine lv_iadd hx hb dL_law_491 ?_
  refine va_sld hx hb hX hbl hbA hWx.2.2.1 (hv 2 (by decide) (by decide)) dL_law_492 ?_
  refine lv_aload_n hx hb dL_law_493 rfl (lv_at hl 0 rfl) ?_
  refine lv_iload_n hx hb dL_law_494 rfl (lv_at hl 3 rfl) ?_
  refine lv_iconst (v := 3) hx hb dL_law_495 (by decide) ?_
  refine lv_iadd hx hb dL_law_496 ?_
  refine va_sld hx hb hX hbl hbA hWx.2.2.1 (hv 3 (by decide) (by decide)) dL_law_497 ?_
  refine lv_aload_n hx hb dL_law_498 rfl (lv_at hl 0 rfl) ?_
  refine lv_iload_n hx hb dL_law_499 rfl (lv_at hl 3 rfl) ?_
  refine lv_iconst (v := 4) hx hb dL_law_500 (by decide) ?_
  refine lv_iadd hx hb dL_law_501 ?_
  refine va_sld hx hb hX hbl hbA hWx.2.2.1 (hv 4 (by decide) (by decide)) dL_law_502 ?_
  refine lb_I hWx hWm hdis (x_runV (As := [.int (xs (ix (x3 + 1))), .int (xs (ix (x3 + 2))), .int (xs (ix (x3 + 3))), .int (xs (ix (x3 + 4)))]) (rest := []) Cx1 hWx (c_X6_fewest l G1 e1 H.size) cv_RL_48 rv_X6 hl.1 rfl rfl ⟨Nat.le_of_ble_eq_true rfl, Nat.le_of_ble_eq_true rfl⟩ (Nat.le_of_ble_eq_true rfl) ⟨Nat.le_of_ble_eq_true rfl, Nat.le_of_ble_eq_true rfl⟩ dL_law_503) (fun H locs hWx hWm => ?_)
  refine lv_aload_n hx hb dL_law_506 rfl (lv_at hl 2 rfl) ?_
  refine lv_aload_n hx hb dL_law_507 rfl (lv_at hl 0 rfl) ?_
  refine lv_iload_n hx hb dL_law_508 rfl (lv_at hl 3 rfl) ?_
  refine lv_iconst (v := 1) hx hb dL_law_509 (by decide) ?_
  refine lv_iadd hx hb dL_law_510 ?_
  refine va_sld hx hb hX hbl hbA hWx.2.2.1 (hv 1 (by decide) (by decide)) dL_law_511 ?_
  refine lv_aload_n hx hb dL_law_512 rfl (lv_at hl 0 rfl) ?_
  refine lv_iload_n hx hb dL_law_513 rfl (lv_at hl 3 rfl) ?_
  refine lv_iconst (v := 2) hx hb dL_law_514 (by decide) ?_
  refine lv_iadd hx hb dL_law_515 ?_
  refine va_sld hx hb hX hbl hbA hWx.2.2.1 (hv 2 (by decide) (by decide)) dL_law_516 ?_
  refine lv_aload_n hx hb dL_law_517 rfl (lv_at hl 0 rfl) ?_
  refine lv_iload_n hx hb dL_law_518 rfl (lv_at hl 3 rfl) ?_
  refine lv_iconst (v := 3) hx hb dL_law_519 (by decide) ?_
  refine lv_iadd hx hb dL_law_520 ?_
  refine va_sld hx hb hX hbl hbA hWx.2.2.1 (hv 3 (by decide) (by decide)) dL_law_521 ?_
  refine lv_aload_n hx hb dL_law_522 rfl (lv_at hl 0 rfl) ?_
  refine lv_iload_n hx hb dL_law_523 rfl (lv_at hl 3 rfl) ?_
  refine lv_iconst (v := 4) hx hb dL_law_524 (by decide) ?_
  refine lv_iadd hx hb dL_law_525 ?_
  refine va_sld hx hb hX hbl hbA hWx.2.2.1 (hv 4 (by decide) (by decide)) dL_law_526 ?_
  refine lb_I hWm hWx (fun i j hi hj q => hdis j i hj hi q.symm) (x_runV (As := [.int (xs (ix (x3 + 1))), .int (xs (ix (x3 + 2))), .int (xs (ix (x3 + 3))), .int (xs (ix (x3 + 4)))]) (rest := [.int r]) Cx2 hWm (c_X7_fewest l G2 e2 H.size) cv_RL_51 rv_X7 hl.1 rfl rfl ⟨Nat.le_of_ble_eq_true rfl, Nat.le_of_ble_eq_true rfl⟩ (Nat.le_of_ble_eq_true rfl) ⟨Nat.le_of_ble_eq_true rfl, Nat.le_of_ble_eq_true rfl⟩ dL_law_527) (fun H locs hWm hWx => ?_)
  exact lv_icmp_eq (tgt := 1110) hx hb dL_law_530 (by decide) (fun _ => Kn _ _ _ _ hI hWx hWm) (fun b => absurd rfl b)
set_option maxHeartbeats 4000000 in
set_option maxRecDepth 100000 in
theorem law_halls {Inv : St → St → Prop} (hsim : Sim_halls Inv) {p : Program} {l : Launch} {e : Env} {s : State} {m : MethodId} {below : List Frame} {meth : Method} {c : Code} {b L : Nat} {xs : Nat → Int32} {G1 G2 : Geo} {Q : State → Prop} (Cx1 : Cx G1 RL code 4 p s m #[Value.ref b] c) (Cx2 : Cx G2 RL code 4 p s m #[Value.ref b] c) (hdis : ∀ i j, i < 37 → j < 18 → adr G1 i ≠ adr G2 j) (hX : va_X b L xs s s.heap) (hbl : b < s.heap.size) {x3 : Int32} (hv : ∀ j : Nat, 1 ≤ j → j ≤ 5 → vp_in (x3 + nI j) L) {ls : Array Slot} (hl : lv_has ls 4 [(0, .ref b), (1, .ref (adr G1 0)), (2, .ref (adr G2 0)), (3, .int x3)]) (Kn : ∀ (Sx Sm : St) (H : Heap) (locs : List Loc), Inv Sx Sm → HX G1 (fun q => s.heap.size ≤ q) s.heap Sx H locs → HM G2 (fun q => s.heap.size ≤ q) s.heap Sm H locs → W p l e room_1 s m #[Value.ref b] below meth c H locs 55 13311 Q (F0 m 1110 ls [])) {Sx Sm : St} (hI : Inv Sx Sm) {H : Heap} {locs : List Loc} (hWx : HX G1 (fun q => s.heap.size ≤ q) s.heap Sx H locs) (hWm : HM G2 (fun q => s.heap.size ≤ q) s.heap Sm H locs) : W p l e room_1 s m #[Value.ref b] below meth c H locs 55 13311 Q (F0 m 535 ls []) := by
  have hbA : ¬ (fun q : Nat => s.heap.size ≤ q) b := Nat.not_le.mpr hbl
  obtain ⟨hx, hb, -⟩ := id Cx1
  obtain ⟨r, Sx', Sm', e1, e2, hI⟩ := hsim Sx Sm  hI
  refine lv_aload_n hx hb dL_law_535 rfl (lv_at hl 1 rfl) ?_
  refine lb_I hWx hWm hdis (x_runV (As := []) (rest := []) Cx1 hWx (c_X6_halls l G1 e1 H.size) cv_RL_52 rv_X6 hl.1 rfl rfl ⟨Nat.le_of_ble_eq_true rfl, Nat.le_of_ble_eq_true rfl⟩ (Nat.le_of_ble_eq_true rfl) ⟨Nat.le_of_ble_eq_true rfl, Nat.le_of_ble_eq_true rfl⟩ dL_law_536) (fun H locs hWx hWm => ?_)
  refine lv_aload_n hx hb dL_law_539 rfl (lv_at hl 2 rfl) ?_
  refine lb_I hWm hWx (fun i j hi hj q => hdis j i hj hi q.symm) (x_runV (As := []) (rest := [.int r]) Cx2 hWm (c_X7_halls l G2 e2 H.size) cv_RL_56 rv_X7 hl.1 rfl rfl ⟨Nat.le_of_ble_eq_true rfl, Nat.le_of_ble_eq_true rfl⟩ (Nat.le_of_ble_eq_true rfl) ⟨Nat.le_of_ble_eq_true rfl, Nat.le_of_ble_eq_true rfl⟩ dL_law_540) (fun H locs hWm hWx => ?_)
  exact lv_icmp_eq (tgt := 1110) hx hb dL_law_543 (by decide) (fun _ => Kn _ _ _ _ hI hWx hWm) (fun b => absurd rfl b)
set_option maxHeartbeats 4000000 in
set_option maxRecDepth 100000 in
theorem law_alone {Inv : St → St → Prop} (hsim : Sim_alone Inv) {p : Program} {l : Launch} {e : Env} {s : State} {m : MethodId} {below : List Frame} {meth : Method} {c : Code} {b L : Nat} {xs : Nat → Int32} {G1 G2 : Geo} {Q : State → Prop} (Cx1 : Cx G1 RL code 4 p s m #[Value.ref b] c) (Cx2 : Cx G2 RL code 4 p s m #[Value.ref b] c) (hdis : ∀ i j, i < 37 → j < 18 → adr G1 i ≠ adr G2 j) (hX : va_X b L xs s s.heap) (hbl : b < s.heap.size) {x3 : Int32} (hv : ∀ j : Nat, 1 ≤ j → j ≤ 5 → vp_in (x3 + nI j) L) {ls : Array Slot} (hl : lv_has ls 4 [(0, .ref b), (1, .ref (adr G1 0)), (2, .ref (adr G2 0)), (3, .int x3)]) (Kn : ∀ (Sx Sm : St) (H : Heap) (locs : List Loc), Inv Sx Sm → HX G1 (fun q => s.heap.size ≤ q) s.heap Sx H locs → HM G2 (fun q => s.heap.size ≤ q) s.heap Sm H locs → W p l e room_1 s m #[Value.ref b] below meth c H locs 55 13311 Q (F0 m 1110 ls [])) {Sx Sm : St} (hI : Inv Sx Sm) {H : Heap} {locs : List Loc} (hWx : HX G1 (fun q => s.heap.size ≤ q) s.heap Sx H locs) (hWm : HM G2 (fun q => s.heap.size ≤ q) s.heap Sm H locs) : W p l e room_1 s m #[Value.ref b] below meth c H locs 55 13311 Q (F0 m 548 ls []) := by
  have hbA : ¬ (fun q : Nat => s.heap.size ≤ q) b := Nat.not_le.mpr hbl
  obtain ⟨hx, hb, -⟩ := id Cx1
  obtain ⟨r, Sx', Sm', e1, e2, hI⟩ := hsim Sx Sm (xs (ix (x3 + 1))) hI
  refine lv_aload_n hx hb dL_law_548 rfl (lv_at hl 1 rfl) ?_
  refine lv_aload_n hx hb dL_law_549 rfl (lv_at hl 0 rfl) ?_
  refine lv_iload_n hx hb dL_law_550 rfl (lv_at hl 3 rfl) ?_
  refine lv_iconst (v := 1) hx hb dL_law_551 (by decide) ?_
  refine lv_iadd hx hb dL_law_552 ?_
  refine va_sld hx hb hX hbl hbA hWx.2.2.1 (hv 1 (by decide) (by decide)) dL_law_553 ?_
  refine lb_I hWx hWm hdis (x_runV (As := [.int (xs (ix (x3 + 1)))]) (rest := []) Cx1 hWx (c_X6_alone l G1 e1 H.size) cv_RL_57 rv_X6 hl.1 rfl rfl ⟨Nat.le_of_ble_eq_true rfl, Nat.le_of_ble_eq_true rfl⟩ (Nat.le_of_ble_eq_true rfl) ⟨Nat.le_of_ble_eq_true rfl, Nat.le_of_ble_eq_true rfl⟩ dL_law_554) (fun H locs hWx hWm => ?_)
  refine lv_aload_n hx hb dL_law_557 rfl (lv_at hl 2 rfl) ?_
  refine lv_aload_n hx hb dL_law_558 rfl (lv_at hl 0 rfl) ?_
  refine lv_iload_n hx hb dL_law_559 rfl (lv_at hl 3 rfl) ?_
  refine lv_iconst (v := 1) hx hb dL_law_560 (by decide) ?_
  refine lv_iadd hx hb dL_law_561 ?_
  refine va_sld hx hb hX hbl hbA hWx.2.2.1 (hv 1 (by decide) (by decide)) dL_law_562 ?_
  refine lb_I hWm hWx (fun i j hi hj q => hdis j i hj hi q.symm) (x_runV (As := [.int (xs (ix (x3 + 1)))]) (rest := [.int r]) Cx2 hWm (c_X7_alone l G2 e2 H.size) cv_RL_61 rv_X7 hl.1 rfl rfl ⟨Nat.le_of_ble_eq_true rfl, Nat.le_of_ble_eq_true rfl⟩ (Nat.le_of_ble_eq_true rfl) ⟨Nat.le_of_ble_eq_true rfl, Nat.le_of_ble_eq_true rfl⟩ dL_law_563) (fun H locs hWm hWx => ?_)
  exact lv_icmp_eq (tgt := 1110) hx hb dL_law_566 (by decide) (fun _ => Kn _ _ _ _ hI hWx hWm) (fun b => absurd rfl b)
set_option maxHeartbeats 4000000 in
set_option maxRecDepth 100000 in
theorem law_idle {Inv : St → St → Prop} (hsim : Sim_idle Inv) {p : Program} {l : Launch} {e : Env} {s : State} {m : MethodId} {below : List Frame} {meth : Method} {c : Code} {b L : Nat} {xs : Nat → Int32} {G1 G2 : Geo} {Q : State → Prop} (Cx1 : Cx G1 RL code 4 p s m #[Value.ref b] c) (Cx2 : Cx G2 RL code 4 p s m #[Value.ref b] c) (hdis : ∀ i j, i < 37 → j < 18 → adr G1 i ≠ adr G2 j) (hX : va_X b L xs s s.heap) (hbl : b < s.heap.size) {x3 : Int32} (hv : ∀ j : Nat, 1 ≤ j → j ≤ 5 → vp_in (x3 + nI j) L) {ls : Array Slot} (hl : lv_has ls 4 [(0, .ref b), (1, .ref (adr G1 0)), (2, .ref (adr G2 0)), (3, .int x3)]) (Kn : ∀ (Sx Sm : St) (H : Heap) (locs : List Loc), Inv Sx Sm → HX G1 (fun q => s.heap.size ≤ q) s.heap Sx H locs → HM G2 (fun q => s.heap.size ≤ q) s.heap Sm H locs → W p l e room_1 s m #[Value.ref b] below meth c H locs 55 13311 Q (F0 m 1110 ls [])) {Sx Sm : St} (hI : Inv Sx Sm) {H : Heap} {locs : List Loc} (hWx : HX G1 (fun q => s.heap.size ≤ q) s.heap Sx H locs) (hWm : HM G2 (fun q => s.heap.size ≤ q) s.heap Sm H locs) : W p l e room_1 s m #[Value.ref b] below meth c H locs 55 13311 Q (F0 m 571 ls []) := by
  have hbA : ¬ (fun q : Nat => s.heap.size ≤ q) b := Nat.not_le.mpr hbl
  obtain ⟨hx, hb, -⟩ := id Cx1
  obtain ⟨r, Sx', Sm', e1, e2, hI⟩ := hsim Sx Sm  hI
  refine lv_aload_n hx hb dL_law_571 rfl (lv_at hl 1 rfl) ?_
  refine lb_I hWx hWm hdis (x_runV (As := []) (rest := []) Cx1 hWx (c_X6_idle l G1 e1 H.size) cv_RL_62 rv_X6 hl.1 rfl rfl ⟨Nat.le_of_ble_eq_true rfl, Nat.le_of_ble_eq_true rfl⟩ (Nat.le_of_ble_eq_true rfl) ⟨Nat.le_of_ble_eq_true rfl, Nat.le_of_ble_eq_true rfl⟩ dL_law_572) (fun H locs hWx hWm => ?_)
  refine lv_aload_n hx hb dL_law_575 rfl (lv_at hl 2 rfl) ?_
  refine lb_I hWm hWx (fun i j hi hj q => hdis j i hj hi q.symm) (x_runV (As := []) (rest := [.int r]) Cx2 hWm (c_X7_idle l G2 e2 H.size) cv_RL_65 rv_X7 hl.1 rfl rfl ⟨Nat.le_of_ble_eq_true rfl, Nat.le_of_ble_eq_true rfl⟩ (Nat.le_of_ble_eq_true rfl) ⟨Nat.le_of_ble_eq_true rfl, Nat.le_of_ble_eq_true rfl⟩ dL_law_576) (fun H locs hWm hWx => ?_)
  exact lv_icmp_eq (tgt := 1110) hx hb dL_law_579 (by decide) (fun _ => Kn _ _ _ _ hI hWx hWm) (fun b => absurd rfl b)
set_option maxHeartbeats 4000000 in
set_option maxRecDepth 100000 in
theorem law_spare {Inv : St → St → Prop} (hsim : Sim_spare Inv) {p : Program} {l : Launch} {e : Env} {s : State} {m : MethodId} {below : List Frame} {meth : Method} {c : Code} {b L : Nat} {xs : Nat → Int32} {G1 G2 : Geo} {Q : State → Prop} (Cx1 : Cx G1 RL code 4 p s m #[Value.ref b] c) (Cx2 : Cx G2 RL code 4 p s m #[Value.ref b] c) (hdis : ∀ i j, i < 37 → j < 18 → adr G1 i ≠ adr G2 j) (hX : va_X b L xs s s.heap) (hbl : b < s.heap.size) {x3 : Int32} (hv : ∀ j : Nat, 1 ≤ j → j ≤ 5 → vp_in (x3 + nI j) L) {ls : Array Slot} (hl : lv_has ls 4 [(0, .ref b), (1, .ref (adr G1 0)), (2, .ref (adr G2 0)), (3, .int x3)]) (Kn : ∀ (Sx Sm : St) (H : Heap) (locs : List Loc), Inv Sx Sm → HX G1 (fun q => s.heap.size ≤ q) s.heap Sx H locs → HM G2 (fun q => s.heap.size ≤ q) s.heap Sm H locs → W p l e room_1 s m #[Value.ref b] below meth c H locs 55 13311 Q (F0 m 1110 ls [])) {Sx Sm : St} (hI : Inv Sx Sm) {H : Heap} {locs : List Loc} (hWx : HX G1 (fun q => s.heap.size ≤ q) s.heap Sx H locs) (hWm : HM G2 (fun q => s.heap.size ≤ q) s.heap Sm H locs) : W p l e room_1 s m #[Value.ref b] below meth c H locs 55 13311 Q (F0 m 584 ls []) := by
  have hbA : ¬ (fun q : Nat => s.heap.size ≤ q) b := Nat.not_le.mpr hbl
  obtain ⟨hx, hb, -⟩ := id Cx1
  obtain ⟨r, Sx', Sm', e1, e2, hI⟩ := hsim Sx Sm  hI
  refine lv_aload_n hx hb dL_law_584 rfl (lv_at hl 1 rfl) ?_
  refine lb_I hWx hWm hdis (x_runV (As := []) (rest := []) Cx1 hWx (c_X6_spare l G1 e1 H.size) cv_RL_66 rv_X6 hl.1 rfl rfl ⟨Nat.le_of_ble_eq_true rfl, Nat.le_of_ble_eq_true rfl⟩ (Nat.le_of_ble_eq_true rfl) ⟨Nat.le_of_ble_eq_true rfl, Nat.le_of_ble_eq_true rfl⟩ dL_law_585) (fun H locs hWx hWm => ?_)
  refine lv_aload_n hx hb dL_law_588 rfl (lv_at hl 2 rfl) ?_
  refine lb_I hWm hWx (fun i j hi hj q => hdis j i hj hi q.symm) (x_runV (As := []) (rest := [.int r]) Cx2 hWm (c_X7_spare l G2 e2 H.size) cv_RL_69 rv_X7 hl.1 rfl rfl ⟨Nat.le_of_ble_eq_true rfl, Nat.le_of_ble_eq_true rfl⟩ (Nat.le_of_ble_eq_true rfl) ⟨Nat.le_of_ble_eq_true rfl, Nat.le_of_ble_eq_true rfl⟩ dL_law_589) (fun H locs hWm hWx => ?_)
  exact lv_icmp_eq (tgt := 1110) hx hb dL_law_592 (by decide) (fun _ => Kn _ _ _ _ hI hWx hWm) (fun b => absurd rfl b)
set_option maxHeartbeats 4000000 in
set_option maxRecDepth 100000 in
theorem law_reading {Inv : St → St → Prop} (hsim : Sim_reading Inv) {p : Program} {l : Launch} {e : Env} {s : State} {m : MethodId} {below : List Frame} {meth : Method} {c : Code} {b L : Nat} {xs : Nat → Int32} {G1 G2 : Geo} {Q : State → Prop} (Cx1 : Cx G1 RL code 4 p s m #[Value.ref b] c) (Cx2 : Cx G2 RL code 4 p s m #[Value.ref b] c) (hdis : ∀ i j, i < 37 → j < 18 → adr G1 i ≠ adr G2 j) (hX : va_X b L xs s s.heap) (hbl : b < s.heap.size) {x3 : Int32} (hv : ∀ j : Nat, 1 ≤ j → j ≤ 5 → vp_in (x3 + nI j) L) {ls : Array Slot} (hl : lv_has ls 4 [(0, .ref b), (1, .ref (adr G1 0)), (2, .ref (adr G2 0)), (3, .int x3)]) (Kn : ∀ (Sx Sm : St) (H : Heap) (locs : List Loc), Inv Sx Sm → HX G1 (fun q => s.heap.size ≤ q) s.heap Sx H locs → HM G2 (fun q => s.heap.size ≤ q) s.heap Sm H locs → W p l e room_1 s m #[Value.ref b] below meth c H locs 55 13311 Q (F0 m 1110 ls [])) {Sx Sm : St} (hI : Inv Sx Sm) {H : Heap} {locs : List Loc} (hWx : HX G1 (fun q => s.heap.size ≤ q) s.heap Sx H locs) (hWm : HM G2 (fun q => s.heap.size ≤ q) s.heap Sm H locs) : W p l e room_1 s m #[Value.ref b] below meth c H locs 55 13311 Q (F0 m 597 ls []) := by
  have hbA : ¬ (fun q : Nat => s.heap.size ≤ q) b := Nat.not_le.mpr hbl
  obtain ⟨hx, hb, -⟩ := id Cx1
  obtain ⟨r, Sx', Sm', e1, e2, hI⟩ := hsim Sx Sm (xs (ix (x3 + 1))) (xs (ix (x3 + 2))) (xs (ix (x3 + 3))) hI
  refine lv_aload_n hx hb dL_law_597 rfl (lv_at hl 1 rfl) ?_
  refine lv_aload_n hx hb dL_law_598 rfl (lv_at hl 0 rfl) ?_
  refine lv_iload_n hx hb dL_law_599 rfl (lv_at hl 3 rfl) ?_
  refine lv_iconst (v := 1) hx hb dL_law_600 (by decide) ?_
  refine lv_iadd hx hb dL_law_601 ?_
  refine va_sld hx hb hX hbl hbA hWx.2.2.1 (hv 1 (by decide) (by decide)) dL_law_602 ?_
  refine lv_aload_n hx hb dL_law_603 rfl (lv_at hl 0 rfl) ?_
  refine lv_iload_n hx hb dL_law_604 rfl (lv_at hl 3 rfl) ?_
  refine lv_iconst (v := 2) hx hb dL_law_605 (by decide) ?_
  refine lv_iadd hx hb dL_law_606 ?_
  refine va_sld hx hb hX hbl hbA hWx.2.2.1 (hv 2 (by decide) (by decide)) dL_law_607 ?_
  refine lv_aload_n hx hb dL_law_608 rfl (lv_at hl 0 rfl) ?_
  refine lv_iload_n hx hb dL_law_609 rfl (lv_at hl 3 rfl) ?_
  refine lv_iconst (v := 3) hx hb dL_law_610 (by decide) ?_
  refine lv_iadd hx hb dL_law_611 ?_
  refine va_sld hx hb hX hbl hbA hWx.2.2.1 (hv 3 (by decide) (by decide)) dL_law_612 ?_
  refine lb_I hWx hWm hdis (x_runV (As := [.int (xs (ix (x3 + 1))), .int (xs (ix (x3 + 2))), .int (xs (ix (x3 + 3)))]) (rest := []) Cx1 hWx (c_X6_reading l G1 e1 H.size) cv_RL_70 rv_X6 hl.1 rfl rfl ⟨Nat.le_of_ble_eq_true rfl, Nat.le_of_ble_eq_true rfl⟩ (Nat.le_of_ble_eq_true rfl) ⟨Nat.le_of_ble_eq_true rfl, Nat.le_of_ble_eq_true rfl⟩ dL_law_613) (fun H locs hWx hWm => ?_)
  refine lv_aload_n hx hb dL_law_616 rfl (lv_at hl 2 rfl) ?_
  refine lv_aload_n hx hb dL_law_617 rfl (lv_at hl 0 rfl) ?_
  refine lv_iload_n hx hb dL_law_618 rfl (lv_at hl 3 rfl) ?_
  refine lv_iconst (v := 1) hx hb dL_law_619 (by decide) ?_
  refine lv_iadd hx hb dL_law_620 ?_
  refine va_sld hx hb hX hbl hbA hWx.2.2.1 (hv 1 (by decide) (by decide)) dL_law_621 ?_
  refine lv_aload_n hx hb dL_law_622 rfl (lv_at hl 0 rfl) ?_
  refine lv_iload_n hx hb dL_law_623 rfl (lv_at hl 3 rfl) ?_
  refine lv_iconst (v := 2) hx hb dL_law_624 (by decide) ?_
  refine lv_iadd hx hb dL_law_625 ?_
  refine va_sld hx hb hX hbl hbA hWx.2.2.1 (hv 2 (by decide) (by decide)) dL_law_626 ?_
  refine lv_aload_n hx hb dL_law_627 rfl (lv_at hl 0 rfl) ?_
  refine lv_iload_n hx hb dL_law_628 rfl (lv_at hl 3 rfl) ?_
  refine lv_iconst (v := 3) hx hb dL_law_629 (by decide) ?_
  refine lv_iadd hx hb dL_law_630 ?_
  refine va_sld hx hb hX hbl hbA hWx.2.2.1 (hv 3 (by decide) (by decide)) dL_law_631 ?_
  refine lb_I hWm hWx (fun i j hi hj q => hdis j i hj hi q.symm) (x_runV (As := [.int (xs (ix (x3 + 1))), .int (xs (ix (x3 + 2))), .int (xs (ix (x3 + 3)))]) (rest := [.int r]) Cx2 hWm (c_X7_reading l G2 e2 H.size) cv_RL_74 rv_X7 hl.1 rfl rfl ⟨Nat.le_of_ble_eq_true rfl, Nat.le_of_ble_eq_true rfl⟩ (Nat.le_of_ble_eq_true rfl) ⟨Nat.le_of_ble_eq_true rfl, Nat.le_of_ble_eq_true rfl⟩ dL_law_632) (fun H locs hWm hWx => ?_)
  exact lv_icmp_eq (tgt := 1110) hx hb dL_law_635 (by decide) (fun _ => Kn _ _ _ _ hI hWx hWm) (fun b => absurd rfl b)
set_option maxHeartbeats 4000000 in
set_option maxRecDepth 100000 in
theorem law_back {Inv : St → St → Prop} (hsim : Sim_back Inv) {p : Program} {l : Launch} {e : Env} {s : State} {m : MethodId} {below : List Frame} {meth : Method} {c : Code} {b L : Nat} {xs : Nat → Int32} {G1 G2 : Geo} {Q : State → Prop} (Cx1 : Cx G1 RL code 4 p s m #[Value.ref b] c) (Cx2 : Cx G2 RL code 4 p s m #[Value.ref b] c) (hdis : ∀ i j, i < 37 → j < 18 → adr G1 i ≠ adr G2 j) (hX : va_X b L xs s s.heap) (hbl : b < s.heap.size) {x3 : Int32} (hv : ∀ j : Nat, 1 ≤ j → j ≤ 5 → vp_in (x3 + nI j) L) {ls : Array Slot} (hl : lv_has ls 4 [(0, .ref b), (1, .ref (adr G1 0)), (2, .ref (adr G2 0)), (3, .int x3)]) (Kn : ∀ (Sx Sm : St) (H : Heap) (locs : List Loc), Inv Sx Sm → HX G1 (fun q => s.heap.size ≤ q) s.heap Sx H locs → HM G2 (fun q => s.heap.size ≤ q) s.heap Sm H locs → W p l e room_1 s m #[Value.ref b] below meth c H locs 55 13311 Q (F0 m 1110 ls [])) {Sx Sm : St} (hI : Inv Sx Sm) {H : Heap} {locs : List Loc} (hWx : HX G1 (fun q => s.heap.size ≤ q) s.heap Sx H locs) (hWm : HM G2 (fun q => s.heap.size ≤ q) s.heap Sm H locs) : W p l e room_1 s m #[Value.ref b] below meth c H locs 55 13311 Q (F0 m 640 ls []) := by
  have hbA : ¬ (fun q : Nat => s.heap.size ≤ q) b := Nat.not_le.mpr hbl
  obtain ⟨hx, hb, -⟩ := id Cx1
  obtain ⟨r, Sx', Sm', e1, e2, hI⟩ := hsim Sx Sm (xs (ix (x3 + 1))) hI
  refine lv_aload_n hx hb dL_law_640 rfl (lv_at hl 1 rfl) ?_
  refine lv_aload_n hx hb dL_law_641 rfl (lv_at hl 0 rfl) ?_
  refine lv_iload_n hx hb dL_law_642 rfl (lv_at hl 3 rfl) ?_
  refine lv_iconst (v := 1) hx hb dL_law_643 (by decide) ?_
  refine lv_iadd hx hb dL_law_644 ?_
  refine va_sld hx hb hX hbl hbA hWx.2.2.1 (hv 1 (by decide) (by decide)) dL_law_645 ?_
  refine lb_I hWx hWm hdis (x_runV (As := [.int (xs (ix (x3 + 1)))]) (rest := []) Cx1 hWx (c_X6_back l G1 e1 H.size) cv_RL_75 rv_X6 hl.1 rfl rfl ⟨Nat.le_of_ble_eq_true rfl, Nat.le_of_ble_eq_true rfl⟩ (Nat.le_of_ble_eq_true rfl) ⟨Nat.le_of_ble_eq_true rfl, Nat.le_of_ble_eq_true rfl⟩ dL_law_646) (fun H locs hWx hWm => ?_)
  refine lv_aload_n hx hb dL_law_649 rfl (lv_at hl 2 rfl) ?_
  refine lv_aload_n hx hb dL_law_650 rfl (lv_at hl 0 rfl) ?_
  refine lv_iload_n hx hb dL_law_651 rfl (lv_at hl 3 rfl) ?_
  refine lv_iconst (v := 1) hx hb dL_law_652 (by decide) ?_
  refine lv_iadd hx hb dL_law_653 ?_
  refine va_sld hx hb hX hbl hbA hWx.2.2.1 (hv 1 (by decide) (by decide)) dL_law_654 ?_
  refine lb_I hWm hWx (fun i j hi hj q => hdis j i hj hi q.symm) (x_runV (As := [.int (xs (ix (x3 + 1)))]) (rest := [.int r]) Cx2 hWm (c_X7_back l G2 e2 H.size) cv_RL_78 rv_X7 hl.1 rfl rfl ⟨Nat.le_of_ble_eq_true rfl, Nat.le_of_ble_eq_true rfl⟩ (Nat.le_of_ble_eq_true rfl) ⟨Nat.le_of_ble_eq_true rfl, Nat.le_of_ble_eq_true rfl⟩ dL_law_655) (fun H locs hWm hWx => ?_)
  exact lv_icmp_eq (tgt := 1110) hx hb dL_law_658 (by decide) (fun _ => Kn _ _ _ _ hI hWx hWm) (fun b => absurd rfl b)
set_option maxHeartbeats 4000000 in
set_option maxRecDepth 100000 in
theorem law_turnings {Inv : St → St → Prop} (hsim : Sim_turnings Inv) {p : Program} {l : Launch} {e : Env} {s : State} {m : MethodId} {below : List Frame} {meth : Method} {c : Code} {b L : Nat} {xs : Nat → Int32} {G1 G2 : Geo} {Q : State → Prop} (Cx1 : Cx G1 RL code 4 p s m #[Value.ref b] c) (Cx2 : Cx G2 RL code 4 p s m #[Value.ref b] c) (hdis : ∀ i j, i < 37 → j < 18 → adr G1 i ≠ adr G2 j) (hX : va_X b L xs s s.heap) (hbl : b < s.heap.size) {x3 : Int32} (hv : ∀ j : Nat, 1 ≤ j → j ≤ 5 → vp_in (x3 + nI j) L) {ls : Array Slot} (hl : lv_has ls 4 [(0, .ref b), (1, .ref (adr G1 0)), (2, .ref (adr G2 0)), (3, .int x3)]) (Kn : ∀ (Sx Sm : St) (H : Heap) (locs : List Loc), Inv Sx Sm → HX G1 (fun q => s.heap.size ≤ q) s.heap Sx H locs → HM G2 (fun q => s.heap.size ≤ q) s.heap Sm H locs → W p l e room_1 s m #[Value.ref b] below meth c H locs 55 13311 Q (F0 m 1110 ls [])) {Sx Sm : St} (hI : Inv Sx Sm) {H : Heap} {locs : List Loc} (hWx : HX G1 (fun q => s.heap.size ≤ q) s.heap Sx H locs) (hWm : HM G2 (fun q => s.heap.size ≤ q) s.heap Sm H locs) : W p l e room_1 s m #[Value.ref b] below meth c H locs 55 13311 Q (F0 m 663 ls []) := by
  have hbA : ¬ (fun q : Nat => s.heap.size ≤ q) b := Nat.not_le.mpr hbl
  obtain ⟨hx, hb, -⟩ := id Cx1
  obtain ⟨r, Sx', Sm', e1, e2, hI⟩ := hsim Sx Sm (xs (ix (x3 + 1))) hI
  refine lv_aload_n hx hb dL_law_663 rfl (lv_at hl 1 rfl) ?_
  refine lv_aload_n hx hb dL_law_664 rfl (lv_at hl 0 rfl) ?_
  refine lv_iload_n hx hb dL_law_665 rfl (lv_at hl 3 rfl) ?_
  refine lv_iconst (v := 1) hx hb dL_law_666 (by decide) ?_
  refine lv_iadd hx hb dL_law_667 ?_
  refine va_sld hx hb hX hbl hbA hWx.2.2.1 (hv 1 (by decide) (by decide)) dL_law_668 ?_
  refine lb_I hWx hWm hdis (x_runV (As := [.int (xs (ix (x3 + 1)))]) (rest := []) Cx1 hWx (c_X6_turnings l G1 e1 H.size) cv_RL_79 rv_X6 hl.1 rfl rfl ⟨Nat.le_of_ble_eq_true rfl, Nat.le_of_ble_eq_true rfl⟩ (Nat.le_of_ble_eq_true rfl) ⟨Nat.le_of_ble_eq_true rfl, Nat.le_of_ble_eq_true rfl⟩ dL_law_669) (fun H locs hWx hWm => ?_)
  refine lv_aload_n hx hb dL_law_672 rfl (lv_at hl 2 rfl) ?_
  refine lv_aload_n hx hb dL_law_673 rfl (lv_at hl 0 rfl) ?_
  refine lv_iload_n hx hb dL_law_674 rfl (lv_at hl 3 rfl) ?_
  refine lv_iconst (v := 1) hx hb dL_law_675 (by decide) ?_
  refine lv_iadd hx hb dL_law_676 ?_
  refine va_sld hx hb hX hbl hbA hWx.2.2.1 (hv 1 (by decide) (by decide)) dL_law_677 ?_
  refine lb_I hWm hWx (fun i j hi hj q => hdis j i hj hi q.symm) (x_runV (As := [.int (xs (ix (x3 + 1)))]) (rest := [.int r]) Cx2 hWm (c_X7_turnings l G2 e2 H.size) cv_RL_82 rv_X7 hl.1 rfl rfl ⟨Nat.le_of_ble_eq_true rfl, Nat.le_of_ble_eq_true rfl⟩ (Nat.le_of_ble_eq_true rfl) ⟨Nat.le_of_ble_eq_true rfl, Nat.le_of_ble_eq_true rfl⟩ dL_law_678) (fun H locs hWm hWx => ?_)
  exact lv_icmp_eq (tgt := 1110) hx hb dL_law_681 (by decide) (fun _ => Kn _ _ _ _ hI hWx hWm) (fun b => absurd rfl b)
set_option maxHeartbeats 4000000 in
set_option maxRecDepth 100000 in
theorem law_kinds {Inv : St → St → Prop} (hsim : Sim_kinds Inv) {p : Program} {l : Launch} {e : Env} {s : State} {m : MethodId} {below : List Frame} {meth : Method} {c : Code} {b L : Nat} {xs : Nat → Int32} {G1 G2 : Geo} {Q : State → Prop} (Cx1 : Cx G1 RL code 4 p s m #[Value.ref b] c) (Cx2 : Cx G2 RL code 4 p s m #[Value.ref b] c) (hdis : ∀ i j, i < 37 → j < 18 → adr G1 i ≠ adr G2 j) (hX : va_X b L xs s s.heap) (hbl : b < s.heap.size) {x3 : Int32} (hv : ∀ j : Nat, 1 ≤ j → j ≤ 5 → vp_in (x3 + nI j) L) {ls : Array Slot} (hl : lv_has ls 4 [(0, .ref b), (1, .ref (adr G1 0)), (2, .ref (adr G2 0)), (3, .int x3)]) (Kn : ∀ (Sx Sm : St) (H : Heap) (locs : List Loc), Inv Sx Sm → HX G1 (fun q => s.heap.size ≤ q) s.heap Sx H locs → HM G2 (fun q => s.heap.size ≤ q) s.heap Sm H locs → W p l e room_1 s m #[Value.ref b] below meth c H locs 55 13311 Q (F0 m 1110 ls [])) {Sx Sm : St} (hI : Inv Sx Sm) {H : Heap} {locs : List Loc} (hWx : HX G1 (fun q => s.heap.size ≤ q) s.heap Sx H locs) (hWm : HM G2 (fun q => s.heap.size ≤ q) s.heap Sm H locs) : W p l e room_1 s m #[Value.ref b] below meth c H locs 55 13311 Q (F0 m 686 ls []) := by
  have hbA : ¬ (fun q : Nat => s.heap.size ≤ q) b := Nat.not_le.mpr hbl
  obtain ⟨hx, hb, -⟩ := id Cx1
  obtain ⟨r, Sx', Sm', e1, e2, hI⟩ := hsim Sx Sm (xs (ix (x3 + 1))) hI
  refine lv_aload_n hx hb dL_law_686 rfl (lv_at hl 1 rfl) ?_
  refine lv_aload_n hx hb dL_law_687 rfl (lv_at hl 0 rfl) ?_
  refine lv_iload_n hx hb dL_law_688 rfl (lv_at hl 3 rfl) ?_
  refine lv_iconst (v := 1) hx hb dL_law_689 (by decide) ?_
  refine lv_iadd hx hb dL_law_690 ?_
  refine va_sld hx hb hX hbl hbA hWx.2.2.1 (hv 1 (by decide) (by decide)) dL_law_691 ?_
  refine lb_I hWx hWm hdis (x_runV (As := [.int (xs (ix (x3 + 1)))]) (rest := []) Cx1 hWx (c_X6_kinds l G1 e1 H.size) cv_RL_83 rv_X6 hl.1 rfl rfl ⟨Nat.le_of_ble_eq_true rfl, Nat.le_of_ble_eq_true rfl⟩ (Nat.le_of_ble_eq_true rfl) ⟨Nat.le_of_ble_eq_true rfl, Nat.le_of_ble_eq_true rfl⟩ dL_law_692) (fun H locs hWx hWm => ?_)
  refine lv_aload_n hx hb dL_law_695 rfl (lv_at hl 2 rfl) ?_
  refine lv_aload_n hx hb dL_law_696 rfl (lv_at hl 0 rfl) ?_
  refine lv_iload_n hx hb dL_law_697 rfl (lv_at hl 3 rfl) ?_
  refine lv_iconst (v := 1) hx hb dL_law_698 (by decide) ?_
  refine lv_iadd hx hb dL_law_699 ?_
  refine va_sld hx hb hX hbl hbA hWx.2.2.1 (hv 1 (by decide) (by decide)) dL_law_700 ?_
  refine lb_I hWm hWx (fun i j hi hj q => hdis j i hj hi q.symm) (x_runV (As := [.int (xs (ix (x3 + 1)))]) (rest := [.int r]) Cx2 hWm (c_X7_kinds l G2 e2 H.size) cv_RL_86 rv_X7 hl.1 rfl rfl ⟨Nat.le_of_ble_eq_true rfl, Nat.le_of_ble_eq_true rfl⟩ (Nat.le_of_ble_eq_true rfl) ⟨Nat.le_of_ble_eq_true rfl, Nat.le_of_ble_eq_true rfl⟩ dL_law_701) (fun H locs hWm hWx => ?_)
  exact lv_icmp_eq (tgt := 1110) hx hb dL_law_704 (by decide) (fun _ => Kn _ _ _ _ hI hWx hWm) (fun b => absurd rfl b)
set_option maxHeartbeats 4000000 in
set_option maxRecDepth 100000 in
theorem law_shadings {Inv : St → St → Prop} (hsim : Sim_shadings Inv) {p : Program} {l : Launch} {e : Env} {s : State} {m : MethodId} {below : List Frame} {meth : Method} {c : Code} {b L : Nat} {xs : Nat → Int32} {G1 G2 : Geo} {Q : State → Prop} (Cx1 : Cx G1 RL code 4 p s m #[Value.ref b] c) (Cx2 : Cx G2 RL code 4 p s m #[Value.ref b] c) (hdis : ∀ i j, i < 37 → j < 18 → adr G1 i ≠ adr G2 j) (hX : va_X b L xs s s.heap) (hbl : b < s.heap.size) {x3 : Int32} (hv : ∀ j : Nat, 1 ≤ j → j ≤ 5 → vp_in (x3 + nI j) L) {ls : Array Slot} (hl : lv_has ls 4 [(0, .ref b), (1, .ref (adr G1 0)), (2, .ref (adr G2 0)), (3, .int x3)]) (Kn : ∀ (Sx Sm : St) (H : Heap) (locs : List Loc), Inv Sx Sm → HX G1 (fun q => s.heap.size ≤ q) s.heap Sx H locs → HM G2 (fun q => s.heap.size ≤ q) s.heap Sm H locs → W p l e room_1 s m #[Value.ref b] below meth c H locs 55 13311 Q (F0 m 1110 ls [])) {Sx Sm : St} (hI : Inv Sx Sm) {H : Heap} {locs : List Loc} (hWx : HX G1 (fun q => s.heap.size ≤ q) s.heap Sx H locs) (hWm : HM G2 (fun q => s.heap.size ≤ q) s.heap Sm H locs) : W p l e room_1 s m #[Value.ref b] below meth c H locs 55 13311 Q (F0 m 709 ls []) := by
  have hbA : ¬ (fun q : Nat => s.heap.size ≤ q) b := Nat.not_le.mpr hbl
  obtain ⟨hx, hb, -⟩ := id Cx1
  obtain ⟨r, Sx', Sm', e1, e2, hI⟩ := hsim Sx Sm (xs (ix (x3 + 1))) hI
  refine lv_aload_n hx hb dL_law_709 rfl (lv_at hl 1 rfl) ?_
  refine lv_aload_n hx hb dL_law_710 rfl (lv_at hl 0 rfl) ?_
  refine lv_iload_n hx hb dL_law_711 rfl (lv_at hl 3 rfl) ?_
  refine lv_iconst (v := 1) hx hb dL_law_712 (by decide) ?_
  refine lv_iadd hx hb dL_law_713 ?_
  refine va_sld hx hb hX hbl hbA hWx.2.2.1 (hv 1 (by decide) (by decide)) dL_law_714 ?_
  refine lb_I hWx hWm hdis (x_runV (As := [.int (xs (ix (x3 + 1)))]) (rest := []) Cx1 hWx (c_X6_shadings l G1 e1 H.size) cv_RL_87 rv_X6 hl.1 rfl rfl ⟨Nat.le_of_ble_eq_true rfl, Nat.le_of_ble_eq_true rfl⟩ (Nat.le_of_ble_eq_true rfl) ⟨Nat.le_of_ble_eq_true rfl, Nat.le_of_ble_eq_true rfl⟩ dL_law_715) (fun H locs hWx hWm => ?_)
  refine lv_aload_n hx hb dL_law_718 rfl (lv_at hl 2 rfl) ?_
  refine lv_aload_n hx hb dL_law_719 rfl (lv_at hl 0 rfl) ?_
  refine lv_iload_n hx hb dL_law_720 rfl (lv_at hl 3 rfl) ?_
  refine lv_iconst (v := 1) hx hb dL_law_721 (by decide) ?_
  refine lv_iadd hx hb dL_law_722 ?_
  refine va_sld hx hb hX hbl hbA hWx.2.2.1 (hv 1 (by decide) (by decide)) dL_law_723 ?_
  refine lb_I hWm hWx (fun i j hi hj q => hdis j i hj hi q.symm) (x_runV (As := [.int (xs (ix (x3 + 1)))]) (rest := [.int r]) Cx2 hWm (c_X7_shadings l G2 e2 H.size) cv_RL_90 rv_X7 hl.1 rfl rfl ⟨Nat.le_of_ble_eq_true rfl, Nat.le_of_ble_eq_true rfl⟩ (Nat.le_of_ble_eq_true rfl) ⟨Nat.le_of_ble_eq_true rfl, Nat.le_of_ble_eq_true rfl⟩ dL_law_724) (fun H locs hWm hWx => ?_)
  exact lv_icmp_eq (tgt := 1110) hx hb dL_law_727 (by decide) (fun _ => Kn _ _ _ _ hI hWx hWm) (fun b => absurd rfl b)
set_option maxHeartbeats 4000000 in
set_option maxRecDepth 100000 in
theorem law_odds {Inv : St → St → Prop} (hsim : Sim_odds Inv) {p : Program} {l : Launch} {e : Env} {s : State} {m : MethodId} {below : List Frame} {meth : Method} {c : Code} {b L : Nat} {xs : Nat → Int32} {G1 G2 : Geo} {Q : State → Prop} (Cx1 : Cx G1 RL code 4 p s m #[Value.ref b] c) (Cx2 : Cx G2 RL code 4 p s m #[Value.ref b] c) (hdis : ∀ i j, i < 37 → j < 18 → adr G1 i ≠ adr G2 j) (hX : va_X b L xs s s.heap) (hbl : b < s.heap.size) {x3 : Int32} (hv : ∀ j : Nat, 1 ≤ j → j ≤ 5 → vp_in (x3 + nI j) L) {ls : Array Slot} (hl : lv_has ls 4 [(0, .ref b), (1, .ref (adr G1 0)), (2, .ref (adr G2 0)), (3, .int x3)]) (Kn : ∀ (Sx Sm : St) (H : Heap) (locs : List Loc), Inv Sx Sm → HX G1 (fun q => s.heap.size ≤ q) s.heap Sx H locs → HM G2 (fun q => s.heap.size ≤ q) s.heap Sm H locs → W p l e room_1 s m #[Value.ref b] below meth c H locs 55 13311 Q (F0 m 1110 ls [])) {Sx Sm : St} (hI : Inv Sx Sm) {H : Heap} {locs : List Loc} (hWx : HX G1 (fun q => s.heap.size ≤ q) s.heap Sx H locs) (hWm : HM G2 (fun q => s.heap.size ≤ q) s.heap Sm H locs) : W p l e room_1 s m #[Value.ref b] below meth c H locs 55 13311 Q (F0 m 732 ls []) := by
  have hbA : ¬ (fun q : Nat => s.heap.size ≤ q) b := Nat.not_le.mpr hbl
  obtain ⟨hx, hb, -⟩ := id Cx1
  obtain ⟨r, Sx', Sm', e1, e2, hI⟩ := hsim Sx Sm (xs (ix (x3 + 1))) (xs (ix (x3 + 2))) hI
  refine lv_aload_n hx hb dL_law_732 rfl (lv_at hl 1 rfl) ?_
  refine lv_aload_n hx hb dL_law_733 rfl (lv_at hl 0 rfl) ?_
  refine lv_iload_n hx hb dL_law_734 rfl (lv_at hl 3 rfl) ?_
  refine lv_iconst (v := 1) hx hb dL_law_735 (by decide) ?_
  refine lv_iadd hx hb dL_law_736 ?_
  refine va_sld hx hb hX hbl hbA hWx.2.2.1 (hv 1 (by decide) (by decide)) dL_law_737 ?_
  refine lv_aload_n hx hb dL_law_738 rfl (lv_at hl 0 rfl) ?_
  refine lv_iload_n hx hb dL_law_739 rfl (lv_at hl 3 rfl) ?_
  refine lv_iconst (v := 2) hx hb dL_law_740 (by decide) ?_
  refine lv_iadd hx hb dL_law_741 ?_
  refine va_sld hx hb hX hbl hbA hWx.2.2.1 (hv 2 (by decide) (by decide)) dL_law_742 ?_
  refine lb_L hWx hWm hdis (x_runV (As := [.int (xs (ix (x3 + 1))), .int (xs (ix (x3 + 2)))]) (rest := []) Cx1 hWx (c_X6_odds l G1 e1 H.size) cv_RL_91 rv_X6 hl.1 rfl rfl ⟨Nat.le_of_ble_eq_true rfl, Nat.le_of_ble_eq_true rfl⟩ (Nat.le_of_ble_eq_true rfl) ⟨Nat.le_of_ble_eq_true rfl, Nat.le_of_ble_eq_true rfl⟩ dL_law_743) (fun H locs hWx hWm => ?_)
  refine lv_aload_n hx hb dL_law_746 rfl (lv_at hl 2 rfl) ?_
  refine lv_aload_n hx hb dL_law_747 rfl (lv_at hl 0 rfl) ?_
  refine lv_iload_n hx hb dL_law_748 rfl (lv_at hl 3 rfl) ?_
  refine lv_iconst (v := 1) hx hb dL_law_749 (by decide) ?_
  refine lv_iadd hx hb dL_law_750 ?_
  refine va_sld hx hb hX hbl hbA hWx.2.2.1 (hv 1 (by decide) (by decide)) dL_law_751 ?_
  refine lv_aload_n hx hb dL_law_752 rfl (lv_at hl 0 rfl) ?_
  refine lv_iload_n hx hb dL_law_753 rfl (lv_at hl 3 rfl) ?_
  refine lv_iconst (v := 2) hx hb dL_law_754 (by decide) ?_
  refine lv_iadd hx hb dL_law_755 ?_
  refine va_sld hx hb hX hbl hbA hWx.2.2.1 (hv 2 (by decide) (by decide)) dL_law_756 ?_
  refine lb_L hWm hWx (fun i j hi hj q => hdis j i hj hi q.symm) (x_runV (As := [.int (xs (ix (x3 + 1))), .int (xs (ix (x3 + 2)))]) (rest := [.long r]) Cx2 hWm (c_X7_odds l G2 e2 H.size) cv_RL_95 rv_X7 hl.1 rfl rfl ⟨Nat.le_of_ble_eq_true rfl, Nat.le_of_ble_eq_true rfl⟩ (Nat.le_of_ble_eq_true rfl) ⟨Nat.le_of_ble_eq_true rfl, Nat.le_of_ble_eq_true rfl⟩ dL_law_757) (fun H locs hWm hWx => ?_)
  refine W.lcmp hx hb dL_law_760 ?_
  exact lv_if_eq (tgt := 1110) hx hb dL_law_761 (by decide) (fun _ => Kn _ _ _ _ hI hWx hWm) (fun b => absurd (lg_self r) b)
set_option maxHeartbeats 4000000 in
set_option maxRecDepth 100000 in
theorem law_sheet {Inv : St → St → Prop} (hsim : Sim_sheet Inv) {p : Program} {l : Launch} {e : Env} {s : State} {m : MethodId} {below : List Frame} {meth : Method} {c : Code} {b L : Nat} {xs : Nat → Int32} {G1 G2 : Geo} {Q : State → Prop} (Cx1 : Cx G1 RL code 4 p s m #[Value.ref b] c) (Cx2 : Cx G2 RL code 4 p s m #[Value.ref b] c) (hdis : ∀ i j, i < 37 → j < 18 → adr G1 i ≠ adr G2 j) (hX : va_X b L xs s s.heap) (hbl : b < s.heap.size) {x3 : Int32} (hv : ∀ j : Nat, 1 ≤ j → j ≤ 5 → vp_in (x3 + nI j) L) {ls : Array Slot} (hl : lv_has ls 4 [(0, .ref b), (1, .ref (adr G1 0)), (2, .ref (adr G2 0)), (3, .int x3)]) (Kn : ∀ (Sx Sm : St) (H : Heap) (locs : List Loc), Inv Sx Sm → HX G1 (fun q => s.heap.size ≤ q) s.heap Sx H locs → HM G2 (fun q => s.heap.size ≤ q) s.heap Sm H locs → W p l e room_1 s m #[Value.ref b] below meth c H locs 55 13311 Q (F0 m 1110 ls [])) {Sx Sm : St} (hI : Inv Sx Sm) {H : Heap} {locs : List Loc} (hWx : HX G1 (fun q => s.heap.size ≤ q) s.heap Sx H locs) (hWm : HM G2 (fun q => s.heap.size ≤ q) s.heap Sm H locs) : W p l e room_1 s m #[Value.ref b] below meth c H locs 55 13311 Q (F0 m 766 ls []) := by
  have hbA : ¬ (fun q : Nat => s.heap.size ≤ q) b := Nat.not_le.mpr hbl
  obtain ⟨hx, hb, -⟩ := id Cx1
  obtain ⟨r, Sx', Sm', e1, e2, hI⟩ := hsim Sx Sm (xs (ix (x3 + 1))) (xs (ix (x3 + 2))) (xs (ix (x3 + 3))) hI
  refine lv_aload_n hx hb dL_law_766 rfl (lv_at hl 1 rfl) ?_
  refine lv_aload_n hx hb dL_law_767 rfl (lv_at hl 0 rfl) ?_
  refine lv_iload_n hx hb dL_law_768 rfl (lv_at hl 3 rfl) ?_
  refine lv_iconst (v := 1) hx hb dL_law_769 (by decide) ?_
  refine lv_iadd hx hb dL_law_770 ?_
  refine va_sld hx hb hX hbl hbA hWx.2.2.1 (hv 1 (by decide) (by decide)) dL_law_771 ?_
  refine lv_aload_n hx hb dL_law_772 rfl (lv_at hl 0 rfl) ?_
  refine lv_iload_n hx hb dL_law_773 rfl (lv_at hl 3 rfl) ?_
  refine lv_iconst (v := 2) hx hb dL_law_774 (by decide) ?_
  refine lv_iadd hx hb dL_law_775 ?_
  refine va_sld hx hb hX hbl hbA hWx.2.2.1 (hv 2 (by decide) (by decide)) dL_law_776 ?_
  refine lv_aload_n hx hb dL_law_777 rfl (lv_at hl 0 rfl) ?_
  refine lv_iload_n hx hb dL_law_778 rfl (lv_at hl 3 rfl) ?_
  refine lv_iconst (v := 3) hx hb dL_law_779 (by decide) ?_
  refine lv_iadd hx hb dL_law_780 ?_
  refine va_sld hx hb hX hbl hbA hWx.2.2.1 (hv 3 (by decide) (by decide)) dL_law_781 ?_
  refine lb_I hWx hWm hdis (x_runV (As := [.int (xs (ix (x3 + 1))), .int (xs (ix (x3 + 2))), .int (xs (ix (x3 + 3)))]) (rest := []) Cx1 hWx (c_X6_sheet l G1 e1 H.size) cv_RL_96 rv_X6 hl.1 rfl rfl ⟨Nat.le_of_ble_eq_true rfl, Nat.le_of_ble_eq_true rfl⟩ (Nat.le_of_ble_eq_true rfl) ⟨Nat.le_of_ble_eq_true rfl, Nat.le_of_ble_eq_true rfl⟩ dL_law_782) (fun H locs hWx hWm => ?_)
  refine lv_aload_n hx hb dL_law_785 rfl (lv_at hl 2 rfl) ?_
  refine lv_aload_n hx hb dL_law_786 rfl (lv_at hl 0 rfl) ?_
  refine lv_iload_n hx hb dL_law_787 rfl (lv_at hl 3 rfl) ?_
  refine lv_iconst (v := 1) hx hb dL_law_788 (by decide) ?_
  refine lv_iadd hx hb dL_law_789 ?_
  refine va_sld hx hb hX hbl hbA hWx.2.2.1 (hv 1 (by decide) (by decide)) dL_law_790 ?_
  refine lv_aload_n hx hb dL_law_791 rfl (lv_at hl 0 rfl) ?_
  refine lv_iload_n hx hb dL_law_792 rfl (lv_at hl 3 rfl) ?_
  refine lv_iconst (v := 2) hx hb dL_law_793 (by decide) ?_
  refine lv_iadd hx hb dL_law_794 ?_
  refine va_sld hx hb hX hbl hbA hWx.2.2.1 (hv 2 (by decide) (by decide)) dL_law_795 ?_
  refine lv_aload_n hx hb dL_law_796 rfl (lv_at hl 0 rfl) ?_
  refine lv_iload_n hx hb dL_law_797 rfl (lv_at hl 3 rfl) ?_
  refine lv_iconst (v := 3) hx hb dL_law_798 (by decide) ?_
  refine lv_iadd hx hb dL_law_799 ?_
  refine va_sld hx hb hX hbl hbA hWx.2.2.1 (hv 3 (by decide) (by decide)) dL_law_800 ?_
  refine lb_I hWm hWx (fun i j hi hj q => hdis j i hj hi q.symm) (x_runV (As := [.int (xs (ix (x3 + 1))), .int (xs (ix (x3 + 2))), .int (xs (ix (x3 + 3)))]) (rest := [.int r]) Cx2 hWm (c_X7_sheet l G2 e2 H.size) cv_RL_99 rv_X7 hl.1 rfl rfl ⟨Nat.le_of_ble_eq_true rfl, Nat.le_of_ble_eq_true rfl⟩ (Nat.le_of_ble_eq_true rfl) ⟨Nat.le_of_ble_eq_true rfl, Nat.le_of_ble_eq_true rfl⟩ dL_law_801) (fun H locs hWm hWx => ?_)
  exact lv_icmp_eq (tgt := 1110) hx hb dL_law_804 (by decide) (fun _ => Kn _ _ _ _ hI hWx hWm) (fun b => absurd rfl b)
set_option maxHeartbeats 4000000 in
set_option maxRecDepth 100000 in
theorem law_lose {Inv : St → St → Prop} (hsim : Sim_lose Inv) {p : Program} {l : Launch} {e : Env} {s : State} {m : MethodId} {below : List Frame} {meth : Method} {c : Code} {b L : Nat} {xs : Nat → Int32} {G1 G2 : Geo} {Q : State → Prop} (Cx1 : Cx G1 RL code 4 p s m #[Value.ref b] c) (Cx2 : Cx G2 RL code 4 p s m #[Value.ref b] c) (hdis : ∀ i j, i < 37 → j < 18 → adr G1 i ≠ adr G2 j) (hX : va_X b L xs s s.heap) (hbl : b < s.heap.size) {x3 : Int32} (hv : ∀ j : Nat, 1 ≤ j → j ≤ 5 → vp_in (x3 + nI j) L) {ls : Array Slot} (hl : lv_has ls 4 [(0, .ref b), (1, .ref (adr G1 0)), (2, .ref (adr G2 0)), (3, .int x3)]) (Kn : ∀ (Sx Sm : St) (H : Heap) (locs : List Loc), Inv Sx Sm → HX G1 (fun q => s.heap.size ≤ q) s.heap Sx H locs → HM G2 (fun q => s.heap.size ≤ q) s.heap Sm H locs → W p l e room_1 s m #[Value.ref b] below meth c H locs 55 13311 Q (F0 m 1110 ls [])) {Sx Sm : St} (hI : Inv Sx Sm) {H : Heap} {locs : List Loc} (hWx : HX G1 (fun q => s.heap.size ≤ q) s.heap Sx H locs) (hWm : HM G2 (fun q => s.heap.size ≤ q) s.heap Sm H locs) : W p l e room_1 s m #[Value.ref b] below meth c H locs 55 13311 Q (F0 m 809 ls []) := by
  have hbA : ¬ (fun q : Nat => s.heap.size ≤ q) b := Nat.not_le.mpr hbl
  obtain ⟨hx, hb, -⟩ := id Cx1
  obtain ⟨r, Sx', Sm', e1, e2, hI⟩ := hsim Sx Sm (xs (ix (x3 + 1))) hI
  refine lv_aload_n hx hb dL_law_809 rfl (lv_at hl 1 rfl) ?_
  refine lv_aload_n hx hb dL_law_810 rfl (lv_at hl 0 rfl) ?_
  refine lv_iload_n hx hb dL_law_811 rfl (lv_at hl 3 rfl) ?_
  refine lv_iconst (v := 1) hx hb dL_law_812 (by decide) ?_
  refine lv_iadd hx hb dL_law_813 ?_
  refine va_sld hx hb hX hbl hbA hWx.2.2.1 (hv 1 (by decide) (by decide)) dL_law_814 ?_
  refine lb_I hWx hWm hdis (x_runV (As := [.int (xs (ix (x3 + 1)))]) (rest := []) Cx1 hWx (c_X6_lose l G1 e1 H.size) cv_RL_100 rv_X6 hl.1 rfl rfl ⟨Nat.le_of_ble_eq_true rfl, Nat.le_of_ble_eq_true rfl⟩ (Nat.le_of_ble_eq_true rfl) ⟨Nat.le_of_ble_eq_true rfl, Nat.le_of_ble_eq_true rfl⟩ dL_law_815) (fun H locs hWx hWm => ?_)
  refine lv_aload_n hx hb dL_law_818 rfl (lv_at hl 2 rfl) ?_
  refine lv_aload_n hx hb dL_law_819 rfl (lv_at hl 0 rfl) ?_
  refine lv_iload_n hx hb dL_law_820 rfl (lv_at hl 3 rfl) ?_
  refine lv_iconst (v := 1) hx hb dL_law_821 (by decide) ?_
  refine lv_iadd hx hb dL_law_822 ?_
  refine va_sld hx hb hX hbl hbA hWx.2.2.1 (hv 1 (by decide) (by decide)) dL_law_823 ?_
  refine lb_I hWm hWx (fun i j hi hj q => hdis j i hj hi q.symm) (x_runV (As := [.int (xs (ix (x3 + 1)))]) (rest := [.int r]) Cx2 hWm (c_X7_lose l G2 e2 H.size) cv_RL_103 rv_X7 hl.1 rfl rfl ⟨Nat.le_of_ble_eq_true rfl, Nat.le_of_ble_eq_true rfl⟩ (Nat.le_of_ble_eq_true rfl) ⟨Nat.le_of_ble_eq_true rfl, Nat.le_of_ble_eq_true rfl⟩ dL_law_824) (fun H locs hWm hWx => ?_)
  exact lv_icmp_eq (tgt := 1110) hx hb dL_law_827 (by decide) (fun _ => Kn _ _ _ _ hI hWx hWm) (fun b => absurd rfl b)
set_option maxHeartbeats 4000000 in
set_option maxRecDepth 100000 in
theorem law_put {Inv : St → St → Prop} (hsim : Sim_put Inv) {p : Program} {l : Launch} {e : Env} {s : State} {m : MethodId} {below : List Frame} {meth : Method} {c : Code} {b L : Nat} {xs : Nat → Int32} {G1 G2 : Geo} {Q : State → Prop} (Cx1 : Cx G1 RL code 4 p s m #[Value.ref b] c) (Cx2 : Cx G2 RL code 4 p s m #[Value.ref b] c) (hdis : ∀ i j, i < 37 → j < 18 → adr G1 i ≠ adr G2 j) (hX : va_X b L xs s s.heap) (hbl : b < s.heap.size) {x3 : Int32} (hv : ∀ j : Nat, 1 ≤ j → j ≤ 5 → vp_in (x3 + nI j) L) {ls : Array Slot} (hl : lv_has ls 4 [(0, .ref b), (1, .ref (adr G1 0)), (2, .ref (adr G2 0)), (3, .int x3)]) (Kn : ∀ (Sx Sm : St) (H : Heap) (locs : List Loc), Inv Sx Sm → HX G1 (fun q => s.heap.size ≤ q) s.heap Sx H locs → HM G2 (fun q => s.heap.size ≤ q) s.heap Sm H locs → W p l e room_1 s m #[Value.ref b] below meth c H locs 55 13311 Q (F0 m 1110 ls [])) {Sx Sm : St} (hI : Inv Sx Sm) {H : Heap} {locs : List Loc} (hWx : HX G1 (fun q => s.heap.size ≤ q) s.heap Sx H locs) (hWm : HM G2 (fun q => s.heap.size ≤ q) s.heap Sm H locs) : W p l e room_1 s m #[Value.ref b] below meth c H locs 55 13311 Q (F0 m 832 ls []) := by
  have hbA : ¬ (fun q : Nat => s.heap.size ≤ q) b := Nat.not_le.mpr hbl
  obtain ⟨hx, hb, -⟩ := id Cx1
  obtain ⟨r, Sx', Sm', e1, e2, hI⟩ := hsim Sx Sm (xs (ix (x3 + 1))) (xs (ix (x3 + 2))) (xs (ix (x3 + 3))) hI
  refine lv_aload_n hx hb dL_law_832 rfl (lv_at hl 1 rfl) ?_
  refine lv_aload_n hx hb dL_law_833 rfl (lv_at hl 0 rfl) ?_
  refine lv_iload_n hx hb dL_law_834 rfl (lv_at hl 3 rfl) ?_
  refine lv_iconst (v := 1) hx hb dL_law_835 (by decide) ?_
  refine lv_iadd hx hb dL_law_836 ?_
  refine va_sld hx hb hX hbl hbA hWx.2.2.1 (hv 1 (by decide) (by decide)) dL_law_837 ?_
  refine lv_aload_n hx hb dL_law_838 rfl (lv_at hl 0 rfl) ?_
  refine lv_iload_n hx hb dL_law_839 rfl (lv_at hl 3 rfl) ?_
  refine lv_iconst (v := 2) hx hb dL_law_840 (by decide) ?_
  refine lv_iadd hx hb dL_law_841 ?_
  refine va_sld hx hb hX hbl hbA hWx.2.2.1 (hv 2 (by decide) (by decide)) dL_law_842 ?_
  refine lv_aload_n hx hb dL_law_843 rfl (lv_at hl 0 rfl) ?_
  refine lv_iload_n hx hb dL_law_844 rfl (lv_at hl 3 rfl) ?_
  refine lv_iconst (v := 3) hx hb dL_law_845 (by decide) ?_
  refine lv_iadd hx hb dL_law_846 ?_
  refine va_sld hx hb hX hbl hbA hWx.2.2.1 (hv 3 (by decide) (by decide)) dL_law_847 ?_
  refine lb_I hWx hWm hdis (x_runV (As := [.int (xs (ix (x3 + 1))), .int (xs (ix (x3 + 2))), .int (xs (ix (x3 + 3)))]) (rest := []) Cx1 hWx (c_X6_put l G1 e1 H.size) cv_RL_104 rv_X6 hl.1 rfl rfl ⟨Nat.le_of_ble_eq_true rfl, Nat.le_of_ble_eq_true rfl⟩ (Nat.le_of_ble_eq_true rfl) ⟨Nat.le_of_ble_eq_true rfl, Nat.le_of_ble_eq_true rfl⟩ dL_law_848) (fun H locs hWx hWm => ?_)
  refine lv_aload_n hx hb dL_law_851 rfl (lv_at hl 2 rfl) ?_
  refine lv_aload_n hx hb dL_law_852 rfl (lv_at hl 0 rfl) ?_
  refine lv_iload_n hx hb dL_law_853 rfl (lv_at hl 3 rfl) ?_
  refine lv_iconst (v := 1) hx hb dL_law_854 (by decide) ?_
  refine lv_iadd hx hb dL_law_855 ?_
  refine va_sld hx hb hX hbl hbA hWx.2.2.1 (hv 1 (by decide) (by decide)) dL_law_856 ?_
  refine lv_aload_n hx hb dL_law_857 rfl (lv_at hl 0 rfl) ?_
  refine lv_iload_n hx hb dL_law_858 rfl (lv_at hl 3 rfl) ?_
  refine lv_iconst (v := 2) hx hb dL_law_859 (by decide) ?_
  refine lv_iadd hx hb dL_law_860 ?_
  refine va_sld hx hb hX hbl hbA hWx.2.2.1 (hv 2 (by decide) (by decide)) dL_law_861 ?_
  refine lv_aload_n hx hb dL_law_862 rfl (lv_at hl 0 rfl) ?_
  refine lv_iload_n hx hb dL_law_863 rfl (lv_at hl 3 rfl) ?_
  refine lv_iconst (v := 3) hx hb dL_law_864 (by decide) ?_
  refine lv_iadd hx hb dL_law_865 ?_
  refine va_sld hx hb hX hbl hbA hWx.2.2.1 (hv 3 (by decide) (by decide)) dL_law_866 ?_
  refine lb_I hWm hWx (fun i j hi hj q => hdis j i hj hi q.symm) (x_runV (As := [.int (xs (ix (x3 + 1))), .int (xs (ix (x3 + 2))), .int (xs (ix (x3 + 3)))]) (rest := [.int r]) Cx2 hWm (c_X7_put l G2 e2 H.size) cv_RL_107 rv_X7 hl.1 rfl rfl ⟨Nat.le_of_ble_eq_true rfl, Nat.le_of_ble_eq_true rfl⟩ (Nat.le_of_ble_eq_true rfl) ⟨Nat.le_of_ble_eq_true rfl, Nat.le_of_ble_eq_true rfl⟩ dL_law_867) (fun H locs hWm hWx => ?_)
  exact lv_icmp_eq (tgt := 1110) hx hb dL_law_870 (by decide) (fun _ => Kn _ _ _ _ hI hWx hWm) (fun b => absurd rfl b)
set_option maxHeartbeats 4000000 in
set_option maxRecDepth 100000 in
theorem law_cell {Inv : St → St → Prop} (hsim : Sim_cell Inv) {p : Program} {l : Launch} {e : Env} {s : State} {m : MethodId} {below : List Frame} {meth : Method} {c : Code} {b L : Nat} {xs : Nat → Int32} {G1 G2 : Geo} {Q : State → Prop} (Cx1 : Cx G1 RL code 4 p s m #[Value.ref b] c) (Cx2 : Cx G2 RL code 4 p s m #[Value.ref b] c) (hdis : ∀ i j, i < 37 → j < 18 → adr G1 i ≠ adr G2 j) (hX : va_X b L xs s s.heap) (hbl : b < s.heap.size) {x3 : Int32} (hv : ∀ j : Nat, 1 ≤ j → j ≤ 5 → vp_in (x3 + nI j) L) {ls : Array Slot} (hl : lv_has ls 4 [(0, .ref b), (1, .ref (adr G1 0)), (2, .ref (adr G2 0)), (3, .int x3)]) (Kn : ∀ (Sx Sm : St) (H : Heap) (locs : List Loc), Inv Sx Sm → HX G1 (fun q => s.heap.size ≤ q) s.heap Sx H locs → HM G2 (fun q => s.heap.size ≤ q) s.heap Sm H locs → W p l e room_1 s m #[Value.ref b] below meth c H locs 55 13311 Q (F0 m 1110 ls [])) {Sx Sm : St} (hI : Inv Sx Sm) {H : Heap} {locs : List Loc} (hWx : HX G1 (fun q => s.heap.size ≤ q) s.heap Sx H locs) (hWm : HM G2 (fun q => s.heap.size ≤ q) s.heap Sm H locs) : W p l e room_1 s m #[Value.ref b] below meth c H locs 55 13311 Q (F0 m 875 ls []) := by
  have hbA : ¬ (fun q : Nat => s.heap.size ≤ q) b := Nat.not_le.mpr hbl
  obtain ⟨hx, hb, -⟩ := id Cx1
  obtain ⟨r, Sx', Sm', e1, e2, hI⟩ := hsim Sx Sm (xs (ix (x3 + 1))) (xs (ix (x3 + 2))) (xs (ix (x3 + 3))) hI
  refine lv_aload_n hx hb dL_law_875 rfl (lv_at hl 1 rfl) ?_
  refine lv_aload_n hx hb dL_law_876 rfl (lv_at hl 0 rfl) ?_
  refine lv_iload_n hx hb dL_law_877 rfl (lv_at hl 3 rfl) ?_
  refine lv_iconst (v := 1) hx hb dL_law_878 (by decide) ?_
  refine lv_iadd hx hb dL_law_879 ?_
  refine va_sld hx hb hX hbl hbA hWx.2.2.1 (hv 1 (by decide) (by decide)) dL_law_880 ?_
  refine lv_aload_n hx hb dL_law_881 rfl (lv_at hl 0 rfl) ?_
  refine lv_iload_n hx hb dL_law_882 rfl (lv_at hl 3 rfl) ?_
  refine lv_iconst (v := 2) hx hb dL_law_883 (by decide) ?_
  refine lv_iadd hx hb dL_law_884 ?_
  refine va_sld hx hb hX hbl hbA hWx.2.2.1 (hv 2 (by decide) (by decide)) dL_law_885 ?_
  refine lv_aload_n hx hb dL_law_886 rfl (lv_at hl 0 rfl) ?_
  refine lv_iload_n hx hb dL_law_887 rfl (lv_at hl 3 rfl) ?_
  refine lv_iconst (v := 3) hx hb dL_law_888 (by decide) ?_
  refine lv_iadd hx hb dL_law_889 ?_
  refine va_sld hx hb hX hbl hbA hWx.2.2.1 (hv 3 (by decide) (by decide)) dL_law_890 ?_
  refine lb_L hWx hWm hdis (x_runV (As := [.int (xs (ix (x3 + 1))), .int (xs (ix (x3 + 2))), .int (xs (ix (x3 + 3)))]) (rest := []) Cx1 hWx (c_X6_cell l G1 e1 H.size) cv_RL_108 rv_X6 hl.1 rfl rfl ⟨Nat.le_of_ble_eq_true rfl, Nat.le_of_ble_eq_true rfl⟩ (Nat.le_of_ble_eq_true rfl) ⟨Nat.le_of_ble_eq_true rfl, Nat.le_of_ble_eq_true rfl⟩ dL_law_891) (fun H locs hWx hWm => ?_)
  refine lv_aload_n hx hb dL_law_894 rfl (lv_at hl 2 rfl) ?_
  refine lv_aload_n hx hb dL_law_895 rfl (lv_at hl 0 rfl) ?_
  refine lv_iload_n hx hb dL_law_896 rfl (lv_at hl 3 rfl) ?_
  refine lv_iconst (v := 1) hx hb dL_law_897 (by decide) ?_
  refine lv_iadd hx hb dL_law_898 ?_
  refine va_sld hx hb hX hbl hbA hWx.2.2.1 (hv 1 (by decide) (by decide)) dL_law_899 ?_
  refine lv_aload_n hx hb dL_law_900 rfl (lv_at hl 0 rfl) ?_
  refine lv_iload_n hx hb dL_law_901 rfl (lv_at hl 3 rfl) ?_
  refine lv_iconst (v := 2) hx hb dL_law_902 (by decide) ?_
  refine lv_iadd hx hb dL_law_903 ?_
  refine va_sld hx hb hX hbl hbA hWx.2.2.1 (hv 2 (by decide) (by decide)) dL_law_904 ?_
  refine lv_aload_n hx hb dL_law_905 rfl (lv_at hl 0 rfl) ?_
  refine lv_iload_n hx hb dL_law_906 rfl (lv_at hl 3 rfl) ?_
  refine lv_iconst (v := 3) hx hb dL_law_907 (by decide) ?_
  refine lv_iadd hx hb dL_law_908 ?_
  refine va_sld hx hb hX hbl hbA hWx.2.2.1 (hv 3 (by decide) (by decide)) dL_law_909 ?_
  refine lb_L hWm hWx (fun i j hi hj q => hdis j i hj hi q.symm) (x_runV (As := [.int (xs (ix (x3 + 1))), .int (xs (ix (x3 + 2))), .int (xs (ix (x3 + 3)))]) (rest := [.long r]) Cx2 hWm (c_X7_cell l G2 e2 H.size) cv_RL_112 rv_X7 hl.1 rfl rfl ⟨Nat.le_of_ble_eq_true rfl, Nat.le_of_ble_eq_true rfl⟩ (Nat.le_of_ble_eq_true rfl) ⟨Nat.le_of_ble_eq_true rfl, Nat.le_of_ble_eq_true rfl⟩ dL_law_910) (fun H locs hWm hWx => ?_)
  refine W.lcmp hx hb dL_law_913 ?_
  exact lv_if_eq (tgt := 1110) hx hb dL_law_914 (by decide) (fun _ => Kn _ _ _ _ hI hWx hWm) (fun b => absurd (lg_self r) b)
set_option maxHeartbeats 4000000 in
set_option maxRecDepth 100000 in
theorem law_copy {Inv : St → St → Prop} (hsim : Sim_copy Inv) {p : Program} {l : Launch} {e : Env} {s : State} {m : MethodId} {below : List Frame} {meth : Method} {c : Code} {b L : Nat} {xs : Nat → Int32} {G1 G2 : Geo} {Q : State → Prop} (Cx1 : Cx G1 RL code 4 p s m #[Value.ref b] c) (Cx2 : Cx G2 RL code 4 p s m #[Value.ref b] c) (hdis : ∀ i j, i < 37 → j < 18 → adr G1 i ≠ adr G2 j) (hX : va_X b L xs s s.heap) (hbl : b < s.heap.size) {x3 : Int32} (hv : ∀ j : Nat, 1 ≤ j → j ≤ 5 → vp_in (x3 + nI j) L) {ls : Array Slot} (hl : lv_has ls 4 [(0, .ref b), (1, .ref (adr G1 0)), (2, .ref (adr G2 0)), (3, .int x3)]) (Kn : ∀ (Sx Sm : St) (H : Heap) (locs : List Loc), Inv Sx Sm → HX G1 (fun q => s.heap.size ≤ q) s.heap Sx H locs → HM G2 (fun q => s.heap.size ≤ q) s.heap Sm H locs → W p l e room_1 s m #[Value.ref b] below meth c H locs 55 13311 Q (F0 m 1110 ls [])) {Sx Sm : St} (hI : Inv Sx Sm) {H : Heap} {locs : List Loc} (hWx : HX G1 (fun q => s.heap.size ≤ q) s.heap Sx H locs) (hWm : HM G2 (fun q => s.heap.size ≤ q) s.heap Sm H locs) : W p l e room_1 s m #[Value.ref b] below meth c H locs 55 13311 Q (F0 m 919 ls []) := by
  have hbA : ¬ (fun q : Nat => s.heap.size ≤ q) b := Nat.not_le.mpr hbl
  obtain ⟨hx, hb, -⟩ := id Cx1
  obtain ⟨r, Sx', Sm', e1, e2, hI⟩ := hsim Sx Sm (xs (ix (x3 + 1))) (xs (ix (x3 + 2))) (xs (ix (x3 + 3))) (xs (ix (x3 + 4))) (xs (ix (x3 + 5))) hI
  refine lv_aload_n hx hb dL_law_919 rfl (lv_at hl 1 rfl) ?_
  refine lv_aload_n hx hb dL_law_920 rfl (lv_at hl 0 rfl) ?_
  refine lv_iload_n hx hb dL_law_921 rfl (lv_at hl 3 rfl) ?_
  refine lv_iconst (v := 1) hx hb dL_law_922 (by decide) ?_
  refine lv_iadd hx hb dL_law_923 ?_
  refine va_sld hx hb hX hbl hbA hWx.2.2.1 (hv 1 (by decide) (by decide)) dL_law_924 ?_
  refine lv_aload_n hx hb dL_law_925 rfl (lv_at hl 0 rfl) ?_
  refine lv_iload_n hx hb dL_law_926 rfl (lv_at hl 3 rfl) ?_
  refine lv_iconst (v := 2) hx hb dL_law_927 (by decide) ?_
  refine lv_iadd hx hb dL_law_928 ?_
  refine va_sld hx hb hX hbl hbA hWx.2.2.1 (hv 2 (by decide) (by decide)) dL_law_929 ?_
  refine lv_aload_n hx hb dL_law_930 rfl (lv_at hl 0 rfl) ?_
  refine lv_iload_n hx hb dL_law_931 rfl (lv_at hl 3 rfl) ?_
  refine lv_iconst (v := 3) hx hb dL_law_932 (by decide) ?_
  refine lv_iadd hx hb dL_law_933 ?_
  refine va_sld hx hb hX hbl hbA hWx.2.2.1 (hv 3 (by decide) (by decide)) dL_law_934 ?_
  refine lv_aload_n hx hb dL_law_935 rfl (lv_at hl 0 rfl) ?_
  refine lv_iload_n hx hb dL_law_936 rfl (lv_at hl 3 rfl) ?_
  refine lv_iconst (v := 4) hx hb dL_law_937 (by decide) ?_
  refine lv_iadd hx hb dL_law_938 ?_
  refine va_sld hx hb hX hbl hbA hWx.2.2.1 (hv 4 (by decide) (by decide)) dL_law_939 ?_
  refine lv_aload_n hx hb dL_law_940 rfl (lv_at hl 0 rfl) ?_
  refine lv_iload_n hx hb dL_law_941 rfl (lv_at hl 3 rfl) ?_
  refine lv_iconst (v := 5) hx hb dL_law_942 (by decide) ?_
  refine lv_iadd hx hb dL_law_943 ?_
  refine va_sld hx hb hX hbl hbA hWx.2.2.1 (hv 5 (by decide) (by decide)) dL_law_944 ?_
  refine lb_I hWx hWm hdis (x_runV (As := [.int (xs (ix (x3 + 1))), .int (xs (ix (x3 + 2))), .int (xs (ix (x3 + 3))), .int (xs (ix (x3 + 4))), .int (xs (ix (x3 + 5)))]) (rest := []) Cx1 hWx (c_X6_copy l G1 e1 H.size) cv_RL_113 rv_X6 hl.1 rfl rfl ⟨Nat.le_of_ble_eq_true rfl, Nat.le_of_ble_eq_true rfl⟩ (Nat.le_of_ble_eq_true rfl) ⟨Nat.le_of_ble_eq_true rfl, Nat.le_of_ble_eq_true rfl⟩ dL_law_945) (fun H locs hWx hWm => ?_)
  refine lv_aload_n hx hb dL_law_948 rfl (lv_at hl 2 rfl) ?_
  refine lv_aload_n hx hb dL_law_949 rfl (lv_at hl 0 rfl) ?_
  refine lv_iload_n hx hb dL_law_950 rfl (lv_at hl 3 rfl) ?_
  refine lv_iconst (v := 1) hx hb dL_law_951 (by decide) ?_
  refine lv_iadd hx hb dL_law_952 ?_
  refine va_sld hx hb hX hbl hbA hWx.2.2.1 (hv 1 (by decide) (by decide)) dL_law_953 ?_
  refine lv_aload_n hx hb dL_law_954 rfl (lv_at hl 0 rfl) ?_
  refine lv_iload_n hx hb dL_law_955 rfl (lv_at hl 3 rfl) ?_
  refine lv_iconst (v := 2) hx hb dL_law_956 (by decide) ?_
  refine lv_iadd hx hb dL_law_957 ?_
  refine va_sld hx hb hX hbl hbA hWx.2.2.1 (hv 2 (by decide) (by decide)) dL_law_958 ?_
  refine lv_aload_n hx hb dL_law_959 rfl (lv_at hl 0 rfl) ?_
  refine lv_iload_n hx hb dL_law_960 rfl (lv_at hl 3 rfl) ?_
  refine lv_iconst (v := 3) hx hb dL_law_961 (by decide) ?_
  refine lv_iadd hx hb dL_law_962 ?_
  refine va_sld hx hb hX hbl hbA hWx.2.2.1 (hv 3 (by decide) (by decide)) dL_law_963 ?_
  refine lv_aload_n hx hb dL_law_964 rfl (lv_at hl 0 rfl) ?_
  refine lv_iload_n hx hb dL_law_965 rfl (lv_at hl 3 rfl) ?_
  refine lv_iconst (v := 4) hx hb dL_law_966 (by decide) ?_
  refine lv_iadd hx hb dL_law_967 ?_
  refine va_sld hx hb hX hbl hbA hWx.2.2.1 (hv 4 (by decide) (by decide)) dL_law_968 ?_
  refine lv_aload_n hx hb dL_law_969 rfl (lv_at hl 0 rfl) ?_
  refine lv_iload_n hx hb dL_law_970 rfl (lv_at hl 3 rfl) ?_
  refine lv_iconst (v := 5) hx hb dL_law_971 (by decide) ?_
  refine lv_iadd hx hb dL_law_972 ?_
  refine va_sld hx hb hX hbl hbA hWx.2.2.1 (hv 5 (by decide) (by decide)) dL_law_973 ?_
  refine lb_I hWm hWx (fun i j hi hj q => hdis j i hj hi q.symm) (x_runV (As := [.int (xs (ix (x3 + 1))), .int (xs (ix (x3 + 2))), .int (xs (ix (x3 + 3))), .int (xs (ix (x3 + 4))), .int (xs (ix (x3 + 5)))]) (rest := [.int r]) Cx2 hWm (c_X7_copy l G2 e2 H.size) cv_RL_116 rv_X7 hl.1 rfl rfl ⟨Nat.le_of_ble_eq_true rfl, Nat.le_of_ble_eq_true rfl⟩ (Nat.le_of_ble_eq_true rfl) ⟨Nat.le_of_ble_eq_true rfl, Nat.le_of_ble_eq_true rfl⟩ dL_law_974) (fun H locs hWm hWx => ?_)
  exact lv_icmp_eq (tgt := 1110) hx hb dL_law_977 (by decide) (fun _ => Kn _ _ _ _ hI hWx hWm) (fun b => absurd rfl b)
set_option maxHeartbeats 4000000 in
set_option maxRecDepth 100000 in
theorem law_tell {Inv : St → St → Prop} (hsim : Sim_tell Inv) {p : Program} {l : Launch} {e : Env} {s : State} {m : MethodId} {below : List Frame} {meth : Method} {c : Code} {b L : Nat} {xs : Nat → Int32} {G1 G2 : Geo} {Q : State → Prop} (Cx1 : Cx G1 RL code 4 p s m #[Value.ref b] c) (Cx2 : Cx G2 RL code 4 p s m #[Value.ref b] c) (hdis : ∀ i j, i < 37 → j < 18 → adr G1 i ≠ adr G2 j) (hX : va_X b L xs s s.heap) (hbl : b < s.heap.size) {x3 : Int32} (hv : ∀ j : Nat, 1 ≤ j → j ≤ 5 → vp_in (x3 + nI j) L) {ls : Array Slot} (hl : lv_has ls 4 [(0, .ref b), (1, .ref (adr G1 0)), (2, .ref (adr G2 0)), (3, .int x3)]) (Kn : ∀ (Sx Sm : St) (H : Heap) (locs : List Loc), Inv Sx Sm → HX G1 (fun q => s.heap.size ≤ q) s.heap Sx H locs → HM G2 (fun q => s.heap.size ≤ q) s.heap Sm H locs → W p l e room_1 s m #[Value.ref b] below meth c H locs 55 13311 Q (F0 m 1110 ls [])) {Sx Sm : St} (hI : Inv Sx Sm) {H : Heap} {locs : List Loc} (hWx : HX G1 (fun q => s.heap.size ≤ q) s.heap Sx H locs) (hWm : HM G2 (fun q => s.heap.size ≤ q) s.heap Sm H locs) : W p l e room_1 s m #[Value.ref b] below meth c H locs 55 13311 Q (F0 m 982 ls []) := by
  have hbA : ¬ (fun q : Nat => s.heap.size ≤ q) b := Nat.not_le.mpr hbl
  obtain ⟨hx, hb, -⟩ := id Cx1
  obtain ⟨r, Sx', Sm', e1, e2, hI⟩ := hsim Sx Sm (xs (ix (x3 + 1))) hI
  refine lv_aload_n hx hb dL_law_982 rfl (lv_at hl 1 rfl) ?_
  refine lv_aload_n hx hb dL_law_983 rfl (lv_at hl 0 rfl) ?_
  refine lv_iload_n hx hb dL_law_984 rfl (lv_at hl 3 rfl) ?_
  refine lv_iconst (v := 1) hx hb dL_law_985 (by decide) ?_
  refine lv_iadd hx hb dL_law_986 ?_
  refine va_sld hx hb hX hbl hbA hWx.2.2.1 (hv 1 (by decide) (by decide)) dL_law_987 ?_
  refine lb_I hWx hWm hdis (x_runV (As := [.int (xs (ix (x3 + 1)))]) (rest := []) Cx1 hWx (c_X6_tell l G1 e1 H.size) cv_RL_117 rv_X6 hl.1 rfl rfl ⟨Nat.le_of_ble_eq_true rfl, Nat.le_of_ble_eq_true rfl⟩ (Nat.le_of_ble_eq_true rfl) ⟨Nat.le_of_ble_eq_true rfl, Nat.le_of_ble_eq_true rfl⟩ dL_law_988) (fun H locs hWx hWm => ?_)
  refine lv_aload_n hx hb dL_law_991 rfl (lv_at hl 2 rfl) ?_
  refine lv_aload_n hx hb dL_law_992 rfl (lv_at hl 0 rfl) ?_
  refine lv_iload_n hx hb dL_law_993 rfl (lv_at hl 3 rfl) ?_
  refine lv_iconst (v := 1) hx hb dL_law_994 (by decide) ?_
  refine lv_iadd hx hb dL_law_995 ?_
  refine va_sld hx hb hX hbl hbA hWx.2.2.1 (hv 1 (by decide) (by decide)) dL_law_996 ?_
  refine lb_I hWm hWx (fun i j hi hj q => hdis j i hj hi q.symm) (x_runV (As := [.int (xs (ix (x3 + 1)))]) (rest := [.int r]) Cx2 hWm (c_X7_tell l G2 e2 H.size) cv_RL_120 rv_X7 hl.1 rfl rfl ⟨Nat.le_of_ble_eq_true rfl, Nat.le_of_ble_eq_true rfl⟩ (Nat.le_of_ble_eq_true rfl) ⟨Nat.le_of_ble_eq_true rfl, Nat.le_of_ble_eq_true rfl⟩ dL_law_997) (fun H locs hWm hWx => ?_)
  exact lv_icmp_eq (tgt := 1110) hx hb dL_law_1000 (by decide) (fun _ => Kn _ _ _ _ hI hWx hWm) (fun b => absurd rfl b)
set_option maxHeartbeats 4000000 in
set_option maxRecDepth 100000 in
theorem law_feel {Inv : St → St → Prop} (hsim : Sim_feel Inv) {p : Program} {l : Launch} {e : Env} {s : State} {m : MethodId} {below : List Frame} {meth : Method} {c : Code} {b L : Nat} {xs : Nat → Int32} {G1 G2 : Geo} {Q : State → Prop} (Cx1 : Cx G1 RL code 4 p s m #[Value.ref b] c) (Cx2 : Cx G2 RL code 4 p s m #[Value.ref b] c) (hdis : ∀ i j, i < 37 → j < 18 → adr G1 i ≠ adr G2 j) (hX : va_X b L xs s s.heap) (hbl : b < s.heap.size) {x3 : Int32} (hv : ∀ j : Nat, 1 ≤ j → j ≤ 5 → vp_in (x3 + nI j) L) {ls : Array Slot} (hl : lv_has ls 4 [(0, .ref b), (1, .ref (adr G1 0)), (2, .ref (adr G2 0)), (3, .int x3)]) (Kn : ∀ (Sx Sm : St) (H : Heap) (locs : List Loc), Inv Sx Sm → HX G1 (fun q => s.heap.size ≤ q) s.heap Sx H locs → HM G2 (fun q => s.heap.size ≤ q) s.heap Sm H locs → W p l e room_1 s m #[Value.ref b] below meth c H locs 55 13311 Q (F0 m 1110 ls [])) {Sx Sm : St} (hI : Inv Sx Sm) {H : Heap} {locs : List Loc} (hWx : HX G1 (fun q => s.heap.size ≤ q) s.heap Sx H locs) (hWm : HM G2 (fun q => s.heap.size ≤ q) s.heap Sm H locs) : W p l e room_1 s m #[Value.ref b] below meth c H locs 55 13311 Q (F0 m 1005 ls []) := by
  have hbA : ¬ (fun q : Nat => s.heap.size ≤ q) b := Nat.not_le.mpr hbl
  obtain ⟨hx, hb, -⟩ := id Cx1
  obtain ⟨r, Sx', Sm', e1, e2, hI⟩ := hsim Sx Sm (xs (ix (x3 + 1))) hI
  refine lv_aload_n hx hb dL_law_1005 rfl (lv_at hl 1 rfl) ?_
  refine lv_aload_n hx hb dL_law_1006 rfl (lv_at hl 0 rfl) ?_
  refine lv_iload_n hx hb dL_law_1007 rfl (lv_at hl 3 rfl) ?_
  refine lv_iconst (v := 1) hx hb dL_law_1008 (by decide) ?_
  refine lv_iadd hx hb dL_law_1009 ?_
  refine va_sld hx hb hX hbl hbA hWx.2.2.1 (hv 1 (by decide) (by decide)) dL_law_1010 ?_
  refine lb_I hWx hWm hdis (x_runV (As := [.int (xs (ix (x3 + 1)))]) (rest := []) Cx1 hWx (c_X6_feel l G1 e1 H.size) cv_RL_121 rv_X6 hl.1 rfl rfl ⟨Nat.le_of_ble_eq_true rfl, Nat.le_of_ble_eq_true rfl⟩ (Nat.le_of_ble_eq_true rfl) ⟨Nat.le_of_ble_eq_true rfl, Nat.le_of_ble_eq_true rfl⟩ dL_law_1011) (fun H locs hWx hWm => ?_)
  refine lv_aload_n hx hb dL_law_1014 rfl (lv_at hl 2 rfl) ?_
  refine lv_aload_n hx hb dL_law_1015 rfl (lv_at hl 0 rfl) ?_
  refine lv_iload_n hx hb dL_law_1016 rfl (lv_at hl 3 rfl) ?_
  refine lv_iconst (v := 1) hx hb dL_law_1017 (by decide) ?_
  refine lv_iadd hx hb dL_law_1018 ?_
  refine va_sld hx hb hX hbl hbA hWx.2.2.1 (hv 1 (by decide) (by decide)) dL_law_1019 ?_
  refine lb_I hWm hWx (fun i j hi hj q => hdis j i hj hi q.symm) (x_runV (As := [.int (xs (ix (x3 + 1)))]) (rest := [.int r]) Cx2 hWm (c_X7_feel l G2 e2 H.size) cv_RL_124 rv_X7 hl.1 rfl rfl ⟨Nat.le_of_ble_eq_true rfl, Nat.le_of_ble_eq_true rfl⟩ (Nat.le_of_ble_eq_true rfl) ⟨Nat.le_of_ble_eq_true rfl, Nat.le_of_ble_eq_true rfl⟩ dL_law_1020) (fun H locs hWm hWx => ?_)
  exact lv_icmp_eq (tgt := 1110) hx hb dL_law_1023 (by decide) (fun _ => Kn _ _ _ _ hI hWx hWm) (fun b => absurd rfl b)
set_option maxHeartbeats 4000000 in
set_option maxRecDepth 100000 in
theorem law_as {Inv : St → St → Prop} (hsim : Sim_as Inv) {p : Program} {l : Launch} {e : Env} {s : State} {m : MethodId} {below : List Frame} {meth : Method} {c : Code} {b L : Nat} {xs : Nat → Int32} {G1 G2 : Geo} {Q : State → Prop} (Cx1 : Cx G1 RL code 4 p s m #[Value.ref b] c) (Cx2 : Cx G2 RL code 4 p s m #[Value.ref b] c) (hdis : ∀ i j, i < 37 → j < 18 → adr G1 i ≠ adr G2 j) (hX : va_X b L xs s s.heap) (hbl : b < s.heap.size) {x3 : Int32} (hv : ∀ j : Nat, 1 ≤ j → j ≤ 5 → vp_in (x3 + nI j) L) {ls : Array Slot} (hl : lv_has ls 4 [(0, .ref b), (1, .ref (adr G1 0)), (2, .ref (adr G2 0)), (3, .int x3)]) (Kn : ∀ (Sx Sm : St) (H : Heap) (locs : List Loc), Inv Sx Sm → HX G1 (fun q => s.heap.size ≤ q) s.heap Sx H locs → HM G2 (fun q => s.heap.size ≤ q) s.heap Sm H locs → W p l e room_1 s m #[Value.ref b] below meth c H locs 55 13311 Q (F0 m 1110 ls [])) {Sx Sm : St} (hI : Inv Sx Sm) {H : Heap} {locs : List Loc} (hWx : HX G1 (fun q => s.heap.size ≤ q) s.heap Sx H locs) (hWm : HM G2 (fun q => s.heap.size ≤ q) s.heap Sm H locs) : W p l e room_1 s m #[Value.ref b] below meth c H locs 55 13311 Q (F0 m 1028 ls []) := by
  have hbA : ¬ (fun q : Nat => s.heap.size ≤ q) b := Nat.not_le.mpr hbl
  obtain ⟨hx, hb, -⟩ := id Cx1
  obtain ⟨r, Sx', Sm', e1, e2, hI⟩ := hsim Sx Sm (xs (ix (x3 + 1))) (xs (ix (x3 + 2))) hI
  refine lv_aload_n hx hb dL_law_1028 rfl (lv_at hl 1 rfl) ?_
  refine lv_aload_n hx hb dL_law_1029 rfl (lv_at hl 0 rfl) ?_
  refine lv_iload_n hx hb dL_law_1030 rfl (lv_at hl 3 rfl) ?_
  refine lv_iconst (v := 1) hx hb dL_law_1031 (by decide) ?_
  refine lv_iadd hx hb dL_law_1032 ?_
  refine va_sld hx hb hX hbl hbA hWx.2.2.1 (hv 1 (by decide) (by decide)) dL_law_1033 ?_
  refine lv_aload_n hx hb dL_law_1034 rfl (lv_at hl 0 rfl) ?_
  refine lv_iload_n hx hb dL_law_1035 rfl (lv_at hl 3 rfl) ?_
  refine lv_iconst (v := 2) hx hb dL_law_1036 (by decide) ?_
  refine lv_iadd hx hb dL_law_1037 ?_
  refine va_sld hx hb hX hbl hbA hWx.2.2.1 (hv 2 (by decide) (by decide)) dL_law_1038 ?_
  refine lb_I hWx hWm hdis (x_runV (As := [.int (xs (ix (x3 + 1))), .int (xs (ix (x3 + 2)))]) (rest := []) Cx1 hWx (c_X6_as l G1 e1 H.size) cv_RL_125 rv_X6 hl.1 rfl rfl ⟨Nat.le_of_ble_eq_true rfl, Nat.le_of_ble_eq_true rfl⟩ (Nat.le_of_ble_eq_true rfl) ⟨Nat.le_of_ble_eq_true rfl, Nat.le_of_ble_eq_true rfl⟩ dL_law_1039) (fun H locs hWx hWm => ?_)
  refine lv_aload_n hx hb dL_law_1042 rfl (lv_at hl 2 rfl) ?_
  refine lv_aload_n hx hb dL_law_1043 rfl (lv_at hl 0 rfl) ?_
  refine lv_iload_n hx hb dL_law_1044 rfl (lv_at hl 3 rfl) ?_
  refine lv_iconst (v := 1) hx hb dL_law_1045 (by decide) ?_
  refine lv_iadd hx hb dL_law_1046 ?_
  refine va_sld hx hb hX hbl hbA hWx.2.2.1 (hv 1 (by decide) (by decide)) dL_law_1047 ?_
  refine lv_aload_n hx hb dL_law_1048 rfl (lv_at hl 0 rfl) ?_
  refine lv_iload_n hx hb dL_law_1049 rfl (lv_at hl 3 rfl) ?_
  refine lv_iconst (v := 2) hx hb dL_law_1050 (by decide) ?_
  refine lv_iadd hx hb dL_law_1051 ?_
  refine va_sld hx hb hX hbl hbA hWx.2.2.1 (hv 2 (by decide) (by decide)) dL_law_1052 ?_
  refine lb_I hWm hWx (fun i j hi hj q => hdis j i hj hi q.symm) (x_runV (As := [.int (xs (ix (x3 + 1))), .int (xs (ix (x3 + 2)))]) (rest := [.int r]) Cx2 hWm (c_X7_as l G2 e2 H.size) cv_RL_128 rv_X7 hl.1 rfl rfl ⟨Nat.le_of_ble_eq_true rfl, Nat.le_of_ble_eq_true rfl⟩ (Nat.le_of_ble_eq_true rfl) ⟨Nat.le_of_ble_eq_true rfl, Nat.le_of_ble_eq_true rfl⟩ dL_law_1053) (fun H locs hWm hWx => ?_)
  exact lv_icmp_eq (tgt := 1110) hx hb dL_law_1056 (by decide) (fun _ => Kn _ _ _ _ hI hWx hWm) (fun b => absurd rfl b)
set_option maxHeartbeats 4000000 in
set_option maxRecDepth 100000 in
theorem law_trace {Inv : St → St → Prop} (hsim : Sim_trace Inv) {p : Program} {l : Launch} {e : Env} {s : State} {m : MethodId} {below : List Frame} {meth : Method} {c : Code} {b L : Nat} {xs : Nat → Int32} {G1 G2 : Geo} {Q : State → Prop} (Cx1 : Cx G1 RL code 4 p s m #[Value.ref b] c) (Cx2 : Cx G2 RL code 4 p s m #[Value.ref b] c) (hdis : ∀ i j, i < 37 → j < 18 → adr G1 i ≠ adr G2 j) (hX : va_X b L xs s s.heap) (hbl : b < s.heap.size) {x3 : Int32} (hv : ∀ j : Nat, 1 ≤ j → j ≤ 5 → vp_in (x3 + nI j) L) {ls : Array Slot} (hl : lv_has ls 4 [(0, .ref b), (1, .ref (adr G1 0)), (2, .ref (adr G2 0)), (3, .int x3)]) (Kn : ∀ (Sx Sm : St) (H : Heap) (locs : List Loc), Inv Sx Sm → HX G1 (fun q => s.heap.size ≤ q) s.heap Sx H locs → HM G2 (fun q => s.heap.size ≤ q) s.heap Sm H locs → W p l e room_1 s m #[Value.ref b] below meth c H locs 55 13311 Q (F0 m 1110 ls [])) {Sx Sm : St} (hI : Inv Sx Sm) {H : Heap} {locs : List Loc} (hWx : HX G1 (fun q => s.heap.size ≤ q) s.heap Sx H locs) (hWm : HM G2 (fun q => s.heap.size ≤ q) s.heap Sm H locs) : W p l e room_1 s m #[Value.ref b] below meth c H locs 55 13311 Q (F0 m 1061 ls []) := by
  have hbA : ¬ (fun q : Nat => s.heap.size ≤ q) b := Nat.not_le.mpr hbl
  obtain ⟨hx, hb, -⟩ := id Cx1
  obtain ⟨r, Sx', Sm', e1, e2, hI⟩ := hsim Sx Sm  hI
  obtain ⟨e1, rfl⟩ := e1
  obtain ⟨e2, rfl⟩ := e2
  refine lv_aload_n hx hb dL_law_1061 rfl (lv_at hl 1 rfl) ?_
  refine lb_I hWx hWm hdis (x_runV (As := []) (rest := []) Cx1 hWx (c_X6_trace l G1 e1 H.size) cv_RL_129 rv_X6 hl.1 rfl rfl ⟨Nat.le_of_ble_eq_true rfl, Nat.le_of_ble_eq_true rfl⟩ (Nat.le_of_ble_eq_true rfl) ⟨Nat.le_of_ble_eq_true rfl, Nat.le_of_ble_eq_true rfl⟩ dL_law_1062) (fun H locs hWx hWm => ?_)
  refine lv_aload_n hx hb dL_law_1065 rfl (lv_at hl 2 rfl) ?_
  refine lb_I hWm hWx (fun i j hi hj q => hdis j i hj hi q.symm) (x_runV (As := []) (rest := [.int r]) Cx2 hWm (c_X7_trace l G2 e2 H.size) cv_RL_132 rv_X7 hl.1 rfl rfl ⟨Nat.le_of_ble_eq_true rfl, Nat.le_of_ble_eq_true rfl⟩ (Nat.le_of_ble_eq_true rfl) ⟨Nat.le_of_ble_eq_true rfl, Nat.le_of_ble_eq_true rfl⟩ dL_law_1066) (fun H locs hWm hWx => ?_)
  exact lv_icmp_eq (tgt := 1110) hx hb dL_law_1069 (by decide) (fun _ => Kn _ _ _ _ hI hWx hWm) (fun b => absurd rfl b)
set_option maxHeartbeats 4000000 in
set_option maxRecDepth 100000 in
theorem law_fault {Inv : St → St → Prop} (hsim : Sim_fault Inv) {p : Program} {l : Launch} {e : Env} {s : State} {m : MethodId} {below : List Frame} {meth : Method} {c : Code} {b L : Nat} {xs : Nat → Int32} {G1 G2 : Geo} {Q : State → Prop} (Cx1 : Cx G1 RL code 4 p s m #[Value.ref b] c) (Cx2 : Cx G2 RL code 4 p s m #[Value.ref b] c) (hdis : ∀ i j, i < 37 → j < 18 → adr G1 i ≠ adr G2 j) (hX : va_X b L xs s s.heap) (hbl : b < s.heap.size) {x3 : Int32} (hv : ∀ j : Nat, 1 ≤ j → j ≤ 5 → vp_in (x3 + nI j) L) {ls : Array Slot} (hl : lv_has ls 4 [(0, .ref b), (1, .ref (adr G1 0)), (2, .ref (adr G2 0)), (3, .int x3)]) (Kn : ∀ (Sx Sm : St) (H : Heap) (locs : List Loc), Inv Sx Sm → HX G1 (fun q => s.heap.size ≤ q) s.heap Sx H locs → HM G2 (fun q => s.heap.size ≤ q) s.heap Sm H locs → W p l e room_1 s m #[Value.ref b] below meth c H locs 55 13311 Q (F0 m 1110 ls [])) {Sx Sm : St} (hI : Inv Sx Sm) {H : Heap} {locs : List Loc} (hWx : HX G1 (fun q => s.heap.size ≤ q) s.heap Sx H locs) (hWm : HM G2 (fun q => s.heap.size ≤ q) s.heap Sm H locs) : W p l e room_1 s m #[Value.ref b] below meth c H locs 55 13311 Q (F0 m 1074 ls []) := by
  have hbA : ¬ (fun q : Nat => s.heap.size ≤ q) b := Nat.not_le.mpr hbl
  obtain ⟨hx, hb, -⟩ := id Cx1
  obtain ⟨r, Sx', Sm', e1, e2, hI⟩ := hsim Sx Sm  hI
  obtain ⟨e1, rfl⟩ := e1
  obtain ⟨e2, rfl⟩ := e2
  refine lv_aload_n hx hb dL_law_1074 rfl (lv_at hl 1 rfl) ?_
  refine lb_I hWx hWm hdis (x_runV (As := []) (rest := []) Cx1 hWx (c_X6_fault l G1 e1 H.size) cv_RL_133 rv_X6 hl.1 rfl rfl ⟨Nat.le_of_ble_eq_true rfl, Nat.le_of_ble_eq_true rfl⟩ (Nat.le_of_ble_eq_true rfl) ⟨Nat.le_of_ble_eq_true rfl, Nat.le_of_ble_eq_true rfl⟩ dL_law_1075) (fun H locs hWx hWm => ?_)
  refine lv_aload_n hx hb dL_law_1078 rfl (lv_at hl 2 rfl) ?_
  refine lb_I hWm hWx (fun i j hi hj q => hdis j i hj hi q.symm) (x_runV (As := []) (rest := [.int r]) Cx2 hWm (c_X7_fault l G2 e2 H.size) cv_RL_136 rv_X7 hl.1 rfl rfl ⟨Nat.le_of_ble_eq_true rfl, Nat.le_of_ble_eq_true rfl⟩ (Nat.le_of_ble_eq_true rfl) ⟨Nat.le_of_ble_eq_true rfl, Nat.le_of_ble_eq_true rfl⟩ dL_law_1079) (fun H locs hWm hWx => ?_)
  exact lv_icmp_eq (tgt := 1110) hx hb dL_law_1082 (by decide) (fun _ => Kn _ _ _ _ hI hWx hWm) (fun b => absurd rfl b)
set_option maxHeartbeats 4000000 in
set_option maxRecDepth 100000 in
theorem law_many {Inv : St → St → Prop} (hsim : Sim_many Inv) {p : Program} {l : Launch} {e : Env} {s : State} {m : MethodId} {below : List Frame} {meth : Method} {c : Code} {b L : Nat} {xs : Nat → Int32} {G1 G2 : Geo} {Q : State → Prop} (Cx1 : Cx G1 RL code 4 p s m #[Value.ref b] c) (Cx2 : Cx G2 RL code 4 p s m #[Value.ref b] c) (hdis : ∀ i j, i < 37 → j < 18 → adr G1 i ≠ adr G2 j) (hX : va_X b L xs s s.heap) (hbl : b < s.heap.size) {x3 : Int32} (hv : ∀ j : Nat, 1 ≤ j → j ≤ 5 → vp_in (x3 + nI j) L) {ls : Array Slot} (hl : lv_has ls 4 [(0, .ref b), (1, .ref (adr G1 0)), (2, .ref (adr G2 0)), (3, .int x3)]) (Kn : ∀ (Sx Sm : St) (H : Heap) (locs : List Loc), Inv Sx Sm → HX G1 (fun q => s.heap.size ≤ q) s.heap Sx H locs → HM G2 (fun q => s.heap.size ≤ q) s.heap Sm H locs → W p l e room_1 s m #[Value.ref b] below meth c H locs 55 13311 Q (F0 m 1110 ls [])) {Sx Sm : St} (hI : Inv Sx Sm) {H : Heap} {locs : List Loc} (hWx : HX G1 (fun q => s.heap.size ≤ q) s.heap Sx H locs) (hWm : HM G2 (fun q => s.heap.size ≤ q) s.heap Sm H locs) : W p l e room_1 s m #[Value.ref b] below meth c H locs 55 13311 Q (F0 m 1087 ls []) := by
  have hbA : ¬ (fun q : Nat => s.heap.size ≤ q) b := Nat.not_le.mpr hbl
  obtain ⟨hx, hb, -⟩ := id Cx1
  obtain ⟨r, Sx', Sm', e1, e2, hI⟩ := hsim Sx Sm (xs (ix (x3 + 1))) hI
  obtain ⟨e1, rfl⟩ := e1
  obtain ⟨e2, rfl⟩ := e2
  refine lv_aload_n hx hb dL_law_1087 rfl (lv_at hl 1 rfl) ?_
  refine lv_aload_n hx hb dL_law_1088 rfl (lv_at hl 0 rfl) ?_
  refine lv_iload_n hx hb dL_law_1089 rfl (lv_at hl 3 rfl) ?_
  refine lv_iconst (v := 1) hx hb dL_law_1090 (by decide) ?_
  refine lv_iadd hx hb dL_law_1091 ?_
  refine va_sld hx hb hX hbl hbA hWx.2.2.1 (hv 1 (by decide) (by decide)) dL_law_1092 ?_
  refine lb_I hWx hWm hdis (x_runV (As := [.int (xs (ix (x3 + 1)))]) (rest := []) Cx1 hWx (c_X6_many l G1 e1 H.size) cv_RL_137 rv_X6 hl.1 rfl rfl ⟨Nat.le_of_ble_eq_true rfl, Nat.le_of_ble_eq_true rfl⟩ (Nat.le_of_ble_eq_true rfl) ⟨Nat.le_of_ble_eq_true rfl, Nat.le_of_ble_eq_true rfl⟩ dL_law_1093) (fun H locs hWx hWm => ?_)
  refine lv_aload_n hx hb dL_law_1096 rfl (lv_at hl 2 rfl) ?_
  refine lv_aload_n hx hb dL_law_1097 rfl (lv_at hl 0 rfl) ?_
  refine lv_iload_n hx hb dL_law_1098 rfl (lv_at hl 3 rfl) ?_
  refine lv_iconst (v := 1) hx hb dL_law_1099 (by decide) ?_
  refine lv_iadd hx hb dL_law_1100 ?_
  refine va_sld hx hb hX hbl hbA hWx.2.2.1 (hv 1 (by decide) (by decide)) dL_law_1101 ?_
  refine lb_I hWm hWx (fun i j hi hj q => hdis j i hj hi q.symm) (x_runV (As := [.int (xs (ix (x3 + 1)))]) (rest := [.int r]) Cx2 hWm (c_X7_many l G2 e2 H.size) cv_RL_140 rv_X7 hl.1 rfl rfl ⟨Nat.le_of_ble_eq_true rfl, Nat.le_of_ble_eq_true rfl⟩ (Nat.le_of_ble_eq_true rfl) ⟨Nat.le_of_ble_eq_true rfl, Nat.le_of_ble_eq_true rfl⟩ dL_law_1102) (fun H locs hWm hWx => ?_)
  exact lv_icmp_eq (tgt := 1110) hx hb dL_law_1105 (by decide) (fun _ => Kn _ _ _ _ hI hWx hWm) (fun b => absurd rfl b)
