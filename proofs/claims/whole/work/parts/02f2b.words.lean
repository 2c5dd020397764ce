/-! words, on -/
theorem NWl_in : ∀ w ∈ NWl, w ∈ lw_tbl := by
  intro w hw
  have h : ∀ k : Nat, k < 41 → ∃ i : Nat, NWl[k]? = lw_tbl[i]? := by
    intro k hk
    match k, hk with
    | 0, _ => exact ⟨68, by decide +kernel⟩
    | 1, _ => exact ⟨76, by decide +kernel⟩
    | 2, _ => exact ⟨94, by decide +kernel⟩
    | 3, _ => exact ⟨97, by decide +kernel⟩
    | 4, _ => exact ⟨102, by decide +kernel⟩
    | 5, _ => exact ⟨104, by decide +kernel⟩
    | 6, _ => exact ⟨106, by decide +kernel⟩
    | 7, _ => exact ⟨108, by decide +kernel⟩
    | 8, _ => exact ⟨110, by decide +kernel⟩
    | 9, _ => exact ⟨112, by decide +kernel⟩
    | 10, _ => exact ⟨114, by decide +kernel⟩
    | 11, _ => exact ⟨133, by decide +kernel⟩
    | 12, _ => exact ⟨297, by decide +kernel⟩
    | 13, _ => exact ⟨302, by decide +kernel⟩
    | 14, _ => exact ⟨303, by decide +kernel⟩
    | 15, _ => exact ⟨305, by decide +kernel⟩
    | 16, _ => exact ⟨306, by decide +kernel⟩
    | 17, _ => exact ⟨307, by decide +kernel⟩
    | 18, _ => exact ⟨308, by decide +kernel⟩
    | 19, _ => exact ⟨309, by decide +kernel⟩
    | 20, _ => exact ⟨310, by decide +kernel⟩
    | 21, _ => exact ⟨312, by decide +kernel⟩
    | 22, _ => exact ⟨313, by decide +kernel⟩
    | 23, _ => exact ⟨314, by decide +kernel⟩
    | 24, _ => exact ⟨315, by decide +kernel⟩
    | 25, _ => exact ⟨316, by decide +kernel⟩
    | 26, _ => exact ⟨317, by decide +kernel⟩
    | 27, _ => exact ⟨318, by decide +kernel⟩
    | 28, _ => exact ⟨320, by decide +kernel⟩
    | 29, _ => exact ⟨321, by decide +kernel⟩
    | 30, _ => exact ⟨322, by decide +kernel⟩
    | 31, _ => exact ⟨324, by decide +kernel⟩
    | 32, _ => exact ⟨325, by decide +kernel⟩
    | 33, _ => exact ⟨326, by decide +kernel⟩
    | 34, _ => exact ⟨328, by decide +kernel⟩
    | 35, _ => exact ⟨329, by decide +kernel⟩
    | 36, _ => exact ⟨330, by decide +kernel⟩
    | 37, _ => exact ⟨332, by decide +kernel⟩
    | 38, _ => exact ⟨333, by decide +kernel⟩
    | 39, _ => exact ⟨335, by decide +kernel⟩
    | 40, _ => exact ⟨336, by decide +kernel⟩
    | k + 41, h => exact absurd h (by omega)
  obtain ⟨k, hk⟩ := List.getElem?_of_mem hw
  have hk2 : k < 41 := (List.getElem?_eq_some_iff.mp hk).1
  obtain ⟨i, hi⟩ := h k hk2
  exact List.mem_of_getElem? (hi.symm.trans hk)
theorem k_ao_RX0 : Cond.arrayOver (.object "LeaningIndex$Piece") ∈ NWl := List.mem_of_getElem? (i := 0) rfl
theorem k_fn_RX4_104 : Cond.fieldLinkNest RX4 104 "LeaningIndex$Tier" "count" "I" "LeaningIndex" ∈ NWl := List.mem_of_getElem? (i := 1) rfl
theorem k_ao_RX2 : Cond.arrayOver (.object "LeaningIndex$Tier") ∈ NWl := List.mem_of_getElem? (i := 2) rfl
theorem k_mn_RX4_52 : Cond.methodLinkNest RX4 52 yX3_init "LeaningIndex" ∈ NWl := List.mem_of_getElem? (i := 3) rfl
theorem k_fn_RX4_261 : Cond.fieldLinkNest RX4 261 "LeaningIndex$Trace" "numbers" "[I" "LeaningIndex" ∈ NWl := List.mem_of_getElem? (i := 4) rfl
theorem k_fn_RX4_260 : Cond.fieldLinkNest RX4 260 "LeaningIndex$Trace" "size" "I" "LeaningIndex" ∈ NWl := List.mem_of_getElem? (i := 5) rfl
theorem k_fn_RX4_257 : Cond.fieldLinkNest RX4 257 "LeaningIndex$Trace" "looks" "I" "LeaningIndex" ∈ NWl := List.mem_of_getElem? (i := 6) rfl
theorem k_fn_RX4_161 : Cond.fieldLinkNest RX4 161 "LeaningIndex$Trace" "answer" "I" "LeaningIndex" ∈ NWl := List.mem_of_getElem? (i := 7) rfl
theorem k_fn_RX4_174 : Cond.fieldLinkNest RX4 174 "LeaningIndex$Trace" "piece" "I" "LeaningIndex" ∈ NWl := List.mem_of_getElem? (i := 8) rfl
theorem k_fn_RX4_167 : Cond.fieldLinkNest RX4 167 "LeaningIndex$Trace" "place" "I" "LeaningIndex" ∈ NWl := List.mem_of_getElem? (i := 9) rfl
theorem k_fn_RX4_177 : Cond.fieldLinkNest RX4 177 "LeaningIndex$Trace" "latePlace" "I" "LeaningIndex" ∈ NWl := List.mem_of_getElem? (i := 10) rfl
theorem k_mn_RX4_62 : Cond.methodLinkNest RX4 62 yX1_init "LeaningIndex" ∈ NWl := List.mem_of_getElem? (i := 11) rfl
theorem k_mn_RX2_126 : Cond.methodLinkNest RX2 126 yX0_init "LeaningIndex" ∈ NWl := List.mem_of_getElem? (i := 12) rfl
theorem k_fn_RX2_91 : Cond.fieldLinkNest RX2 91 "LeaningIndex$Piece" "kind" "I" "LeaningIndex" ∈ NWl := List.mem_of_getElem? (i := 13) rfl
theorem k_fn_RX4_126 : Cond.fieldLinkNest RX4 126 "LeaningIndex$Piece" "kind" "I" "LeaningIndex" ∈ NWl := List.mem_of_getElem? (i := 14) rfl
theorem k_fn_RX3_66 : Cond.fieldLinkNest RX3 66 "LeaningIndex$Piece" "margin" "I" "LeaningIndex" ∈ NWl := List.mem_of_getElem? (i := 15) rfl
theorem k_fn_RX2_123 : Cond.fieldLinkNest RX2 123 "LeaningIndex$Piece" "margin" "I" "LeaningIndex" ∈ NWl := List.mem_of_getElem? (i := 16) rfl
theorem k_fn_RX4_214 : Cond.fieldLinkNest RX4 214 "LeaningIndex$Piece" "margin" "I" "LeaningIndex" ∈ NWl := List.mem_of_getElem? (i := 17) rfl
theorem k_fn_RX3_76 : Cond.fieldLinkNest RX3 76 "LeaningIndex$Piece" "start" "I" "LeaningIndex" ∈ NWl := List.mem_of_getElem? (i := 18) rfl
theorem k_fn_RX2_38 : Cond.fieldLinkNest RX2 38 "LeaningIndex$Piece" "start" "I" "LeaningIndex" ∈ NWl := List.mem_of_getElem? (i := 19) rfl
theorem k_fn_RX3_69 : Cond.fieldLinkNest RX3 69 "LeaningIndex$Piece" "size" "I" "LeaningIndex" ∈ NWl := List.mem_of_getElem? (i := 20) rfl
theorem k_fn_RX2_41 : Cond.fieldLinkNest RX2 41 "LeaningIndex$Piece" "size" "I" "LeaningIndex" ∈ NWl := List.mem_of_getElem? (i := 21) rfl
theorem k_fn_RX4_204 : Cond.fieldLinkNest RX4 204 "LeaningIndex$Piece" "size" "I" "LeaningIndex" ∈ NWl := List.mem_of_getElem? (i := 22) rfl
theorem k_fn_RX3_85 : Cond.fieldLinkNest RX3 85 "LeaningIndex$Piece" "lateStart" "I" "LeaningIndex" ∈ NWl := List.mem_of_getElem? (i := 23) rfl
theorem k_fn_RX2_44 : Cond.fieldLinkNest RX2 44 "LeaningIndex$Piece" "lateStart" "I" "LeaningIndex" ∈ NWl := List.mem_of_getElem? (i := 24) rfl
theorem k_fn_RX3_79 : Cond.fieldLinkNest RX3 79 "LeaningIndex$Piece" "lateSize" "I" "LeaningIndex" ∈ NWl := List.mem_of_getElem? (i := 25) rfl
theorem k_fn_RX2_47 : Cond.fieldLinkNest RX2 47 "LeaningIndex$Piece" "lateSize" "I" "LeaningIndex" ∈ NWl := List.mem_of_getElem? (i := 26) rfl
theorem k_fn_RX4_211 : Cond.fieldLinkNest RX4 211 "LeaningIndex$Piece" "lateSize" "I" "LeaningIndex" ∈ NWl := List.mem_of_getElem? (i := 27) rfl
theorem k_fn_RX1_47 : Cond.fieldLinkNest RX1 47 "LeaningIndex$Piece" "rise" "J" "LeaningIndex" ∈ NWl := List.mem_of_getElem? (i := 28) rfl
theorem k_fn_RX2_106 : Cond.fieldLinkNest RX2 106 "LeaningIndex$Piece" "rise" "J" "LeaningIndex" ∈ NWl := List.mem_of_getElem? (i := 29) rfl
theorem k_fn_RX4_220 : Cond.fieldLinkNest RX4 220 "LeaningIndex$Piece" "rise" "J" "LeaningIndex" ∈ NWl := List.mem_of_getElem? (i := 30) rfl
theorem k_fn_RX1_52 : Cond.fieldLinkNest RX1 52 "LeaningIndex$Piece" "run" "J" "LeaningIndex" ∈ NWl := List.mem_of_getElem? (i := 31) rfl
theorem k_fn_RX2_102 : Cond.fieldLinkNest RX2 102 "LeaningIndex$Piece" "run" "J" "LeaningIndex" ∈ NWl := List.mem_of_getElem? (i := 32) rfl
theorem k_fn_RX4_224 : Cond.fieldLinkNest RX4 224 "LeaningIndex$Piece" "run" "J" "LeaningIndex" ∈ NWl := List.mem_of_getElem? (i := 33) rfl
theorem k_fn_RX1_55 : Cond.fieldLinkNest RX1 55 "LeaningIndex$Piece" "height" "J" "LeaningIndex" ∈ NWl := List.mem_of_getElem? (i := 34) rfl
theorem k_fn_RX2_113 : Cond.fieldLinkNest RX2 113 "LeaningIndex$Piece" "height" "J" "LeaningIndex" ∈ NWl := List.mem_of_getElem? (i := 35) rfl
theorem k_fn_RX4_227 : Cond.fieldLinkNest RX4 227 "LeaningIndex$Piece" "height" "J" "LeaningIndex" ∈ NWl := List.mem_of_getElem? (i := 36) rfl
theorem k_fn_RX2_109 : Cond.fieldLinkNest RX2 109 "LeaningIndex$Piece" "slope" "D" "LeaningIndex" ∈ NWl := List.mem_of_getElem? (i := 37) rfl
theorem k_fn_RX4_237 : Cond.fieldLinkNest RX4 237 "LeaningIndex$Piece" "slope" "D" "LeaningIndex" ∈ NWl := List.mem_of_getElem? (i := 38) rfl
theorem k_fn_RX2_116 : Cond.fieldLinkNest RX2 116 "LeaningIndex$Piece" "base" "D" "LeaningIndex" ∈ NWl := List.mem_of_getElem? (i := 39) rfl
theorem k_fn_RX4_241 : Cond.fieldLinkNest RX4 241 "LeaningIndex$Piece" "base" "D" "LeaningIndex" ∈ NWl := List.mem_of_getElem? (i := 40) rfl
