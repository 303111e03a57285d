/-! THE CONSTRUCTORS, as the law runs them -/
section Zn
variable {l : Launch} {M : kbMt} {rm : Room} {ck cn : Nat} {F : kbFt} {pc : Nat} {L : List (Option Value)} {st : List Value} {w w' : kbPW}
theorem z_astn {i id n jn : Nat} {g : Nat → Option Nat} {j : Int32} (hi : i < w.1) (hs : w.2 i = .inl (3, n, g)) (hin : vp_in j n) (hj : j.toNatClampNeg = jn) (hid : id < kbTx.length) (hlt : w.1 ≤ kbN) (hw : w' = kpSet w i (.inl (3, n, fun q => if q = jn then some (1000 + id) else g q))) (hd : decode M.2.1 pc = .ok (.aastore, 1)) (kk : kbZ l M rm ck cn F (pc + 1) L st w') : kbZ l M rm ck cn F pc L (.ref (1000 + id) :: .int j :: .ref i :: st) w := by
  subst hj
  exact z_ast hi hs hin hid hlt hw hd kk
end Zn
abbrev MX0_init : kbMt := (yX0_init, cX0_init, 1, none)
abbrev MX10_init : kbMt := (yX10_init, cX10_init, 1, none)
abbrev MX11_init : kbMt := (yX11_init, cX11_init, 1, none)
abbrev MX12_init : kbMt := (yX12_init, cX12_init, 1, none)
abbrev MX1_init : kbMt := (yX1_init, cX1_init, 2, none)
abbrev MX2_init : kbMt := (yX2_init, cX2_init, 1, none)
abbrev MX3_init : kbMt := (yX3_init, cX3_init, 3, none)
abbrev MX4_init : kbMt := (yX4_init, cX4_init, 2, none)
abbrev MX5_init : kbMt := (yX5_init, cX5_init, 3, none)
abbrev MX7_init : kbMt := (yX7_init, cX7_init, 2, none)
abbrev MX8_init : kbMt := (yX8_init, cX8_init, 3, none)
abbrev MX9_init : kbMt := (yX9_init, cX9_init, 1, none)
theorem nwL_8 : kbNW "KnockBookLaw" 8 10 11 [.null, .null, .null, .null, .null, .null, .null, .null, .null, .null, .int 0] := ⟨RX11, TX11, tyX11, rfl, kbX11_in, tyX11_ok, by decide, rfl, by simp, kt1 (i := 28) rfl rfl, kt1 (i := 29) rfl rfl, kt1 (i := 1) rfl rfl⟩
theorem obX11_1 : Cond.methodLink "KnockBook" 1 Lib.objectInit ∈ kbT := kt1 (i := 33) rfl rfl
theorem ob_i : Cond.instanceMethod Lib.objectInit ∈ kbT := kt1 (i := 34) rfl rfl
theorem ob_c : Cond.code Lib.objectInit ⟨#[0xb1]⟩ 1 none ∈ kbT := kt1 (i := 35) rfl rfl
theorem nwX11_7 : kbNW "KnockBook" 7 0 12 [.null, .null, .null, .null, .int 0, .int 0, .int 0, .int 0, .int 0, .int 0, .int 0, .int 0] := ⟨RX0, TX0, tyX0, rfl, kbX0_in, tyX0_ok, by decide, rfl, by simp, kt1 (i := 36) rfl rfl, kt1 (i := 37) rfl rfl, kt1 (i := 2) rfl rfl⟩
theorem obX0_3 : Cond.methodLink "KnockBook$BookText" 3 Lib.objectInit ∈ kbT := kt1 (i := 41) rfl rfl
theorem ac_int : Cond.arrayClass (newarray.typeOf .int) ∈ kbT := kt1 (i := 91) rfl rfl
theorem fpX0_9 : kbFP "KnockBook$BookText" 9 0 0 true (.array .int) := ⟨TX0, 12, tyX0, rfl, by decide, kbX0_in, tyX0_ok, nmX0, rfl, rfl, rfl, kt1 (i := 115) rfl rfl⟩
theorem nwX0_15 : kbNW "KnockBook$BookText" 15 9 5 [.null, .null, .null, .null, .int 0] := ⟨RX10, TX10, tyX10, rfl, kbX10_in, tyX10_ok, by decide, rfl, by simp, kt1 (i := 42) rfl rfl, kt1 (i := 43) rfl rfl, kt1 (i := 3) rfl rfl⟩
theorem obX10_3 : Cond.methodLink "KnockBook$Words" 3 Lib.objectInit ∈ kbT := kt1 (i := 47) rfl rfl
theorem fpX10_9 : kbFP "KnockBook$Words" 9 9 0 true (.array .int) := ⟨TX10, 5, tyX10, rfl, by decide, kbX10_in, tyX10_ok, nmX10, rfl, rfl, rfl, kt1 (i := 48) rfl rfl⟩
theorem fpX10_15 : kbFP "KnockBook$Words" 15 9 1 true (.array .int) := ⟨TX10, 5, tyX10, rfl, by decide, kbX10_in, tyX10_ok, nmX10, rfl, rfl, rfl, kt1 (i := 56) rfl rfl⟩
theorem fpX10_18 : kbFP "KnockBook$Words" 18 9 2 true (.array .int) := ⟨TX10, 5, tyX10, rfl, by decide, kbX10_in, tyX10_ok, nmX10, rfl, rfl, rfl, kt1 (i := 62) rfl rfl⟩
theorem fpX10_21 : kbFP "KnockBook$Words" 21 9 3 true (.array .int) := ⟨TX10, 5, tyX10, rfl, by decide, kbX10_in, tyX10_ok, nmX10, rfl, rfl, rfl, kt1 (i := 66) rfl rfl⟩
theorem ciX0_17 : kbCI "KnockBook$BookText" 17 MX10_init 0 := ⟨List.forall_mem_cons.mpr ⟨kt1 (i := 45) rfl rfl, List.forall_mem_cons.mpr ⟨kt1 (i := 3) rfl rfl, List.forall_mem_cons.mpr ⟨kt1 (i := 46) rfl rfl, fun _ h => nomatch h⟩⟩⟩, rfl, rfl, by decide +kernel, Or.inr ⟨"KnockBook", List.mem_of_getElem? (i := 3) rfl⟩⟩
theorem fpX0_18 : kbFP "KnockBook$BookText" 18 0 1 true (.object "KnockBook$Words") := ⟨TX0, 12, tyX0, rfl, by decide, kbX0_in, tyX0_ok, nmX0, rfl, rfl, rfl, kt1 (i := 116) rfl rfl⟩
theorem nwX0_22 : kbNW "KnockBook$BookText" 22 2 3 [.null, .null, .int 0] := ⟨RX2, TX2, tyX2, rfl, kbX2_in, tyX2_ok, by decide, rfl, by simp, kt1 (i := 92) rfl rfl, kt1 (i := 93) rfl rfl, kt1 (i := 4) rfl rfl⟩
theorem obX2_3 : Cond.methodLink "KnockBook$Doors" 3 Lib.objectInit ∈ kbT := kt1 (i := 97) rfl rfl
theorem fpX2_9 : kbFP "KnockBook$Doors" 9 2 0 true (.array .int) := ⟨TX2, 3, tyX2, rfl, by decide, kbX2_in, tyX2_ok, nmX2, rfl, rfl, rfl, kt1 (i := 98) rfl rfl⟩
theorem fpX2_15 : kbFP "KnockBook$Doors" 15 2 1 true (.array .int) := ⟨TX2, 3, tyX2, rfl, by decide, kbX2_in, tyX2_ok, nmX2, rfl, rfl, rfl, kt1 (i := 100) rfl rfl⟩
theorem ciX0_24 : kbCI "KnockBook$BookText" 24 MX2_init 0 := ⟨List.forall_mem_cons.mpr ⟨kt1 (i := 95) rfl rfl, List.forall_mem_cons.mpr ⟨kt1 (i := 4) rfl rfl, List.forall_mem_cons.mpr ⟨kt1 (i := 96) rfl rfl, fun _ h => nomatch h⟩⟩⟩, rfl, rfl, by decide +kernel, Or.inr ⟨"KnockBook", List.mem_of_getElem? (i := 4) rfl⟩⟩
theorem fpX0_25 : kbFP "KnockBook$BookText" 25 0 2 true (.object "KnockBook$Doors") := ⟨TX0, 12, tyX0, rfl, by decide, kbX0_in, tyX0_ok, nmX0, rfl, rfl, rfl, kt1 (i := 118) rfl rfl⟩
theorem fpX0_29 : kbFP "KnockBook$BookText" 29 0 3 true (.array .int) := ⟨TX0, 12, tyX0, rfl, by decide, kbX0_in, tyX0_ok, nmX0, rfl, rfl, rfl, kt1 (i := 120) rfl rfl⟩
theorem fpX0_32 : kbFP "KnockBook$BookText" 32 0 11 false (.int) := ⟨TX0, 12, tyX0, rfl, by decide, kbX0_in, tyX0_ok, nmX0, rfl, rfl, rfl, kt1 (i := 131) rfl rfl⟩
theorem ciX11_9 : kbCI "KnockBook" 9 MX0_init 0 := ⟨List.forall_mem_cons.mpr ⟨kt1 (i := 39) rfl rfl, List.forall_mem_cons.mpr ⟨kt1 (i := 2) rfl rfl, List.forall_mem_cons.mpr ⟨kt1 (i := 40) rfl rfl, fun _ h => nomatch h⟩⟩⟩, rfl, rfl, by decide +kernel, Or.inr ⟨"KnockBook", List.mem_of_getElem? (i := 2) rfl⟩⟩
theorem fpX11_10 : kbFP "KnockBook" 10 10 0 true (.object "KnockBook$BookText") := ⟨TX11, 11, tyX11, rfl, by decide, kbX11_in, tyX11_ok, nmX11, rfl, rfl, rfl, kt2 (i := 117) rfl rfl⟩
theorem nwX11_16 : kbNW "KnockBook" 16 8 8 [.null, .null, .null, .null, .null, .int 0, .int 0, .int 0] := ⟨RX9, TX9, tyX9, rfl, kbX9_in, tyX9_ok, by decide, rfl, by simp, kt1 (i := 158) rfl rfl, kt1 (i := 159) rfl rfl, kt1 (i := 5) rfl rfl⟩
theorem obX9_3 : Cond.methodLink "KnockBook$State" 3 Lib.objectInit ∈ kbT := kt1 (i := 163) rfl rfl
theorem nwX9_9 : kbNW "KnockBook$State" 9 9 5 [.null, .null, .null, .null, .int 0] := ⟨RX10, TX10, tyX10, rfl, kbX10_in, tyX10_ok, by decide, rfl, by simp, kt1 (i := 164) rfl rfl, kt1 (i := 43) rfl rfl, kt1 (i := 3) rfl rfl⟩
theorem ciX9_11 : kbCI "KnockBook$State" 11 MX10_init 0 := ⟨List.forall_mem_cons.mpr ⟨kt1 (i := 45) rfl rfl, List.forall_mem_cons.mpr ⟨kt1 (i := 3) rfl rfl, List.forall_mem_cons.mpr ⟨kt1 (i := 46) rfl rfl, fun _ h => nomatch h⟩⟩⟩, rfl, rfl, by decide +kernel, Or.inr ⟨"KnockBook", List.mem_of_getElem? (i := 5) rfl⟩⟩
theorem fpX9_12 : kbFP "KnockBook$State" 12 8 0 true (.object "KnockBook$Words") := ⟨TX9, 8, tyX9, rfl, by decide, kbX9_in, tyX9_ok, nmX9, rfl, rfl, rfl, kt1 (i := 166) rfl rfl⟩
theorem fpX9_18 : kbFP "KnockBook$State" 18 8 1 true (.array .int) := ⟨TX9, 8, tyX9, rfl, by decide, kbX9_in, tyX9_ok, nmX9, rfl, rfl, rfl, kt1 (i := 169) rfl rfl⟩
theorem fpX9_22 : kbFP "KnockBook$State" 22 8 2 true (.array .int) := ⟨TX9, 8, tyX9, rfl, by decide, kbX9_in, tyX9_ok, nmX9, rfl, rfl, rfl, kt1 (i := 170) rfl rfl⟩
theorem fpX9_25 : kbFP "KnockBook$State" 25 8 3 true (.array .int) := ⟨TX9, 8, tyX9, rfl, by decide, kbX9_in, tyX9_ok, nmX9, rfl, rfl, rfl, kt1 (i := 173) rfl rfl⟩
theorem fpX9_28 : kbFP "KnockBook$State" 28 8 4 true (.array .int) := ⟨TX9, 8, tyX9, rfl, by decide, kbX9_in, tyX9_ok, nmX9, rfl, rfl, rfl, kt1 (i := 176) rfl rfl⟩
theorem ciX11_18 : kbCI "KnockBook" 18 MX9_init 0 := ⟨List.forall_mem_cons.mpr ⟨kt1 (i := 161) rfl rfl, List.forall_mem_cons.mpr ⟨kt1 (i := 5) rfl rfl, List.forall_mem_cons.mpr ⟨kt1 (i := 162) rfl rfl, fun _ h => nomatch h⟩⟩⟩, rfl, rfl, by decide +kernel, Or.inr ⟨"KnockBook", List.mem_of_getElem? (i := 0) rfl⟩⟩
theorem fpX11_19 : kbFP "KnockBook" 19 10 1 true (.object "KnockBook$State") := ⟨TX11, 11, tyX11, rfl, by decide, kbX11_in, tyX11_ok, nmX11, rfl, rfl, rfl, kt2 (i := 118) rfl rfl⟩
theorem fpX11_23 : kbFP "KnockBook" 23 10 2 true (.object "KnockBook$State") := ⟨TX11, 11, tyX11, rfl, by decide, kbX11_in, tyX11_ok, nmX11, rfl, rfl, rfl, kt2 (i := 119) rfl rfl⟩
theorem nwX11_26 : kbNW "KnockBook" 26 2 3 [.null, .null, .int 0] := ⟨RX2, TX2, tyX2, rfl, kbX2_in, tyX2_ok, by decide, rfl, by simp, kt1 (i := 202) rfl rfl, kt1 (i := 93) rfl rfl, kt1 (i := 4) rfl rfl⟩
theorem ciX11_28 : kbCI "KnockBook" 28 MX2_init 0 := ⟨List.forall_mem_cons.mpr ⟨kt1 (i := 95) rfl rfl, List.forall_mem_cons.mpr ⟨kt1 (i := 4) rfl rfl, List.forall_mem_cons.mpr ⟨kt1 (i := 96) rfl rfl, fun _ h => nomatch h⟩⟩⟩, rfl, rfl, by decide +kernel, Or.inr ⟨"KnockBook", List.mem_of_getElem? (i := 1) rfl⟩⟩
theorem fpX11_29 : kbFP "KnockBook" 29 10 3 true (.object "KnockBook$Doors") := ⟨TX11, 11, tyX11, rfl, by decide, kbX11_in, tyX11_ok, nmX11, rfl, rfl, rfl, kt2 (i := 120) rfl rfl⟩
theorem nwX11_33 : kbNW "KnockBook" 33 4 5 [.null, .null, .null, .null, .int 0] := ⟨RX4, TX4, tyX4, rfl, kbX4_in, tyX4_ok, by decide, rfl, by simp, kt1 (i := 204) rfl rfl, kt1 (i := 205) rfl rfl, kt1 (i := 6) rfl rfl⟩
theorem obX4_3 : Cond.methodLink "KnockBook$Joins" 3 Lib.objectInit ∈ kbT := kt1 (i := 209) rfl rfl
theorem fpX4_9 : kbFP "KnockBook$Joins" 9 4 1 true (.array .int) := ⟨TX4, 5, tyX4, rfl, by decide, kbX4_in, tyX4_ok, nmX4, rfl, rfl, rfl, kt1 (i := 211) rfl rfl⟩
theorem fpX4_15 : kbFP "KnockBook$Joins" 15 4 2 true (.array .int) := ⟨TX4, 5, tyX4, rfl, by decide, kbX4_in, tyX4_ok, nmX4, rfl, rfl, rfl, kt1 (i := 212) rfl rfl⟩
theorem fpX4_18 : kbFP "KnockBook$Joins" 18 4 3 true (.array .int) := ⟨TX4, 5, tyX4, rfl, by decide, kbX4_in, tyX4_ok, nmX4, rfl, rfl, rfl, kt1 (i := 213) rfl rfl⟩
theorem fpX4_21 : kbFP "KnockBook$Joins" 21 4 0 true (.object "KnockBook$Words") := ⟨TX4, 5, tyX4, rfl, by decide, kbX4_in, tyX4_ok, nmX4, rfl, rfl, rfl, kt1 (i := 210) rfl rfl⟩
theorem ciX11_39 : kbCI "KnockBook" 39 MX4_init 1 := ⟨List.forall_mem_cons.mpr ⟨kt1 (i := 207) rfl rfl, List.forall_mem_cons.mpr ⟨kt1 (i := 6) rfl rfl, List.forall_mem_cons.mpr ⟨kt1 (i := 208) rfl rfl, fun _ h => nomatch h⟩⟩⟩, rfl, rfl, by decide +kernel, Or.inl (kt1 (i := 206) rfl rfl)⟩
theorem fpX11_42 : kbFP "KnockBook" 42 10 4 true (.object "KnockBook$Joins") := ⟨TX11, 11, tyX11, rfl, by decide, kbX11_in, tyX11_ok, nmX11, rfl, rfl, rfl, kt2 (i := 121) rfl rfl⟩
theorem nwX11_46 : kbNW "KnockBook" 46 6 4 [.null, .null, .null, .null] := ⟨RX7, TX7, tyX7, rfl, kbX7_in, tyX7_ok, by decide, rfl, by simp, kt1 (i := 226) rfl rfl, kt1 (i := 227) rfl rfl, kt1 (i := 7) rfl rfl⟩
theorem obX7_3 : Cond.methodLink "KnockBook$Ruler" 3 Lib.objectInit ∈ kbT := kt1 (i := 231) rfl rfl
theorem fpX7_9 : kbFP "KnockBook$Ruler" 9 6 1 true (.array .int) := ⟨TX7, 4, tyX7, rfl, by decide, kbX7_in, tyX7_ok, nmX7, rfl, rfl, rfl, kt1 (i := 233) rfl rfl⟩
theorem fpX7_15 : kbFP "KnockBook$Ruler" 15 6 2 true (.array .int) := ⟨TX7, 4, tyX7, rfl, by decide, kbX7_in, tyX7_ok, nmX7, rfl, rfl, rfl, kt1 (i := 234) rfl rfl⟩
theorem fpX7_18 : kbFP "KnockBook$Ruler" 18 6 3 true (.array .int) := ⟨TX7, 4, tyX7, rfl, by decide, kbX7_in, tyX7_ok, nmX7, rfl, rfl, rfl, kt1 (i := 235) rfl rfl⟩
theorem fpX7_21 : kbFP "KnockBook$Ruler" 21 6 0 true (.object "KnockBook$Words") := ⟨TX7, 4, tyX7, rfl, by decide, kbX7_in, tyX7_ok, nmX7, rfl, rfl, rfl, kt1 (i := 232) rfl rfl⟩
theorem ciX11_48 : kbCI "KnockBook" 48 MX7_init 1 := ⟨List.forall_mem_cons.mpr ⟨kt1 (i := 229) rfl rfl, List.forall_mem_cons.mpr ⟨kt1 (i := 7) rfl rfl, List.forall_mem_cons.mpr ⟨kt1 (i := 230) rfl rfl, fun _ h => nomatch h⟩⟩⟩, rfl, rfl, by decide +kernel, Or.inl (kt1 (i := 228) rfl rfl)⟩
theorem fpX11_49 : kbFP "KnockBook" 49 10 5 true (.object "KnockBook$Ruler") := ⟨TX11, 11, tyX11, rfl, by decide, kbX11_in, tyX11_ok, nmX11, rfl, rfl, rfl, kt2 (i := 122) rfl rfl⟩
theorem nwX11_53 : kbNW "KnockBook" 53 7 6 [.null, .null, .null, .null, .null, .null] := ⟨RX8, TX8, tyX8, rfl, kbX8_in, tyX8_ok, by decide, rfl, by simp, kt2 (i := 5) rfl rfl, kt2 (i := 6) rfl rfl, kt1 (i := 8) rfl rfl⟩
theorem obX8_3 : Cond.methodLink "KnockBook$Speech" 3 Lib.objectInit ∈ kbT := kt2 (i := 10) rfl rfl
theorem ac_long : Cond.arrayClass (newarray.typeOf .long) ∈ kbT := kt2 (i := 30) rfl rfl
theorem fpX8_9 : kbFP "KnockBook$Speech" 9 7 2 true (.array .long) := ⟨TX8, 6, tyX8, rfl, by decide, kbX8_in, tyX8_ok, nmX8, rfl, rfl, rfl, kt2 (i := 13) rfl rfl⟩
theorem fpX8_15 : kbFP "KnockBook$Speech" 15 7 3 true (.array .int) := ⟨TX8, 6, tyX8, rfl, by decide, kbX8_in, tyX8_ok, nmX8, rfl, rfl, rfl, kt2 (i := 14) rfl rfl⟩
theorem fpX8_19 : kbFP "KnockBook$Speech" 19 7 4 true (.array .int) := ⟨TX8, 6, tyX8, rfl, by decide, kbX8_in, tyX8_ok, nmX8, rfl, rfl, rfl, kt2 (i := 15) rfl rfl⟩
theorem fpX8_22 : kbFP "KnockBook$Speech" 22 7 5 true (.array .int) := ⟨TX8, 6, tyX8, rfl, by decide, kbX8_in, tyX8_ok, nmX8, rfl, rfl, rfl, kt2 (i := 16) rfl rfl⟩
theorem fpX8_25 : kbFP "KnockBook$Speech" 25 7 0 true (.object "KnockBook$Words") := ⟨TX8, 6, tyX8, rfl, by decide, kbX8_in, tyX8_ok, nmX8, rfl, rfl, rfl, kt2 (i := 11) rfl rfl⟩
theorem fpX8_29 : kbFP "KnockBook$Speech" 29 7 1 true (.object "KnockBook$Joins") := ⟨TX8, 6, tyX8, rfl, by decide, kbX8_in, tyX8_ok, nmX8, rfl, rfl, rfl, kt2 (i := 12) rfl rfl⟩
theorem ciX11_55 : kbCI "KnockBook" 55 MX8_init 2 := ⟨List.forall_mem_cons.mpr ⟨kt2 (i := 8) rfl rfl, List.forall_mem_cons.mpr ⟨kt1 (i := 8) rfl rfl, List.forall_mem_cons.mpr ⟨kt2 (i := 9) rfl rfl, fun _ h => nomatch h⟩⟩⟩, rfl, rfl, by decide +kernel, Or.inl (kt2 (i := 7) rfl rfl)⟩
theorem fpX11_58 : kbFP "KnockBook" 58 10 6 true (.object "KnockBook$Speech") := ⟨TX11, 11, tyX11, rfl, by decide, kbX11_in, tyX11_ok, nmX11, rfl, rfl, rfl, kt2 (i := 123) rfl rfl⟩
theorem nwX11_62 : kbNW "KnockBook" 62 1 3 [.null, .null, .null] := ⟨RX1, TX1, tyX1, rfl, kbX1_in, tyX1_ok, by decide, rfl, by simp, kt2 (i := 31) rfl rfl, kt2 (i := 32) rfl rfl, kt1 (i := 9) rfl rfl⟩
theorem obX1_3 : Cond.methodLink "KnockBook$Codes" 3 Lib.objectInit ∈ kbT := kt2 (i := 36) rfl rfl
theorem fpX1_9 : kbFP "KnockBook$Codes" 9 1 1 true (.array .int) := ⟨TX1, 3, tyX1, rfl, by decide, kbX1_in, tyX1_ok, nmX1, rfl, rfl, rfl, kt2 (i := 38) rfl rfl⟩
theorem ac_boolean : Cond.arrayClass (newarray.typeOf .boolean) ∈ kbT := kt2 (i := 47) rfl rfl
theorem fpX1_15 : kbFP "KnockBook$Codes" 15 1 2 true (.array .boolean) := ⟨TX1, 3, tyX1, rfl, by decide, kbX1_in, tyX1_ok, nmX1, rfl, rfl, rfl, kt2 (i := 39) rfl rfl⟩
theorem fpX1_19 : kbFP "KnockBook$Codes" 19 1 0 true (.object "KnockBook$Words") := ⟨TX1, 3, tyX1, rfl, by decide, kbX1_in, tyX1_ok, nmX1, rfl, rfl, rfl, kt2 (i := 37) rfl rfl⟩
theorem ciX11_64 : kbCI "KnockBook" 64 MX1_init 1 := ⟨List.forall_mem_cons.mpr ⟨kt2 (i := 34) rfl rfl, List.forall_mem_cons.mpr ⟨kt1 (i := 9) rfl rfl, List.forall_mem_cons.mpr ⟨kt2 (i := 35) rfl rfl, fun _ h => nomatch h⟩⟩⟩, rfl, rfl, by decide +kernel, Or.inl (kt2 (i := 33) rfl rfl)⟩
theorem fpX11_65 : kbFP "KnockBook" 65 10 7 true (.object "KnockBook$Codes") := ⟨TX11, 11, tyX11, rfl, by decide, kbX11_in, tyX11_ok, nmX11, rfl, rfl, rfl, kt2 (i := 124) rfl rfl⟩
theorem nwX11_69 : kbNW "KnockBook" 69 3 5 [.null, .null, .null, .null, .null] := ⟨RX3, TX3, tyX3, rfl, kbX3_in, tyX3_ok, by decide, rfl, by simp, kt2 (i := 48) rfl rfl, kt2 (i := 49) rfl rfl, kt1 (i := 10) rfl rfl⟩
theorem obX3_3 : Cond.methodLink "KnockBook$House" 3 Lib.objectInit ∈ kbT := kt2 (i := 53) rfl rfl
theorem fpX3_9 : kbFP "KnockBook$House" 9 3 3 true (.array .int) := ⟨TX3, 5, tyX3, rfl, by decide, kbX3_in, tyX3_ok, nmX3, rfl, rfl, rfl, kt2 (i := 59) rfl rfl⟩
theorem fpX3_15 : kbFP "KnockBook$House" 15 3 4 true (.array .int) := ⟨TX3, 5, tyX3, rfl, by decide, kbX3_in, tyX3_ok, nmX3, rfl, rfl, rfl, kt2 (i := 60) rfl rfl⟩
theorem fpX3_18 : kbFP "KnockBook$House" 18 3 0 true (.object "KnockBook$Doors") := ⟨TX3, 5, tyX3, rfl, by decide, kbX3_in, tyX3_ok, nmX3, rfl, rfl, rfl, kt2 (i := 54) rfl rfl⟩
theorem fpX3_22 : kbFP "KnockBook$House" 22 3 1 true (.object "KnockBook$State") := ⟨TX3, 5, tyX3, rfl, by decide, kbX3_in, tyX3_ok, nmX3, rfl, rfl, rfl, kt2 (i := 56) rfl rfl⟩
theorem flX3_26 : kbFL "KnockBook$House" 26 8 0 true (.object "KnockBook$Words") := ⟨RX9, TX9, 8, tyX9, rfl, by decide, kbX9_in, tyX9_ok, nmX9, rfl, rfl, Or.inr ⟨"KnockBook", List.mem_of_getElem? (i := 35) rfl⟩⟩
theorem fpX3_32 : kbFP "KnockBook$House" 32 3 2 true (.object "KnockBook$Words") := ⟨TX3, 5, tyX3, rfl, by decide, kbX3_in, tyX3_ok, nmX3, rfl, rfl, rfl, kt2 (i := 58) rfl rfl⟩
theorem ciX11_71 : kbCI "KnockBook" 71 MX3_init 2 := ⟨List.forall_mem_cons.mpr ⟨kt2 (i := 51) rfl rfl, List.forall_mem_cons.mpr ⟨kt1 (i := 10) rfl rfl, List.forall_mem_cons.mpr ⟨kt2 (i := 52) rfl rfl, fun _ h => nomatch h⟩⟩⟩, rfl, rfl, by decide +kernel, Or.inl (kt2 (i := 50) rfl rfl)⟩
theorem fpX11_74 : kbFP "KnockBook" 74 10 8 true (.object "KnockBook$House") := ⟨TX11, 11, tyX11, rfl, by decide, kbX11_in, tyX11_ok, nmX11, rfl, rfl, rfl, kt2 (i := 125) rfl rfl⟩
theorem nwX11_78 : kbNW "KnockBook" 78 5 11 [.null, .null, .null, .null, .null, .int 0, .int 0, .int 0, .int 0, .int 0, .int 0] := ⟨RX5, TX5, tyX5, rfl, kbX5_in, tyX5_ok, by decide, rfl, by simp, kt2 (i := 72) rfl rfl, kt2 (i := 73) rfl rfl, kt1 (i := 11) rfl rfl⟩
theorem obX5_3 : Cond.methodLink "KnockBook$Play" 3 Lib.objectInit ∈ kbT := kt2 (i := 77) rfl rfl
theorem fpX5_9 : kbFP "KnockBook$Play" 9 5 3 true (.array .int) := ⟨TX5, 11, tyX5, rfl, by decide, kbX5_in, tyX5_ok, nmX5, rfl, rfl, rfl, kt2 (i := 81) rfl rfl⟩
theorem fpX5_15 : kbFP "KnockBook$Play" 15 5 4 true (.array .int) := ⟨TX5, 11, tyX5, rfl, by decide, kbX5_in, tyX5_ok, nmX5, rfl, rfl, rfl, kt2 (i := 82) rfl rfl⟩
theorem fpX5_18 : kbFP "KnockBook$Play" 18 5 0 true (.object "KnockBook$House") := ⟨TX5, 11, tyX5, rfl, by decide, kbX5_in, tyX5_ok, nmX5, rfl, rfl, rfl, kt2 (i := 78) rfl rfl⟩
theorem fpX5_22 : kbFP "KnockBook$Play" 22 5 1 true (.object "KnockBook$Ruler") := ⟨TX5, 11, tyX5, rfl, by decide, kbX5_in, tyX5_ok, nmX5, rfl, rfl, rfl, kt2 (i := 79) rfl rfl⟩
theorem flX5_26 : kbFL "KnockBook$Play" 26 3 2 true (.object "KnockBook$Words") := ⟨RX3, TX3, 5, tyX3, rfl, by decide, kbX3_in, tyX3_ok, nmX3, rfl, rfl, Or.inr ⟨"KnockBook", List.mem_of_getElem? (i := 43) rfl⟩⟩
theorem fpX5_32 : kbFP "KnockBook$Play" 32 5 2 true (.object "KnockBook$Words") := ⟨TX5, 11, tyX5, rfl, by decide, kbX5_in, tyX5_ok, nmX5, rfl, rfl, rfl, kt2 (i := 80) rfl rfl⟩
theorem ciX11_80 : kbCI "KnockBook" 80 MX5_init 2 := ⟨List.forall_mem_cons.mpr ⟨kt2 (i := 75) rfl rfl, List.forall_mem_cons.mpr ⟨kt1 (i := 11) rfl rfl, List.forall_mem_cons.mpr ⟨kt2 (i := 76) rfl rfl, fun _ h => nomatch h⟩⟩⟩, rfl, rfl, by decide +kernel, Or.inl (kt2 (i := 74) rfl rfl)⟩
theorem fpX11_83 : kbFP "KnockBook" 83 10 9 true (.object "KnockBook$Play") := ⟨TX11, 11, tyX11, rfl, by decide, kbX11_in, tyX11_ok, nmX11, rfl, rfl, rfl, kt2 (i := 126) rfl rfl⟩
theorem ciL_91 : kbCI "KnockBookLaw" 91 MX11_init 0 := ⟨List.forall_mem_cons.mpr ⟨kt1 (i := 31) rfl rfl, List.forall_mem_cons.mpr ⟨kt1 (i := 1) rfl rfl, List.forall_mem_cons.mpr ⟨kt1 (i := 32) rfl rfl, fun _ h => nomatch h⟩⟩⟩, rfl, rfl, by decide +kernel, Or.inl (kt1 (i := 30) rfl rfl)⟩
theorem nwL_92 : kbNW "KnockBookLaw" 92 11 60 [.null, .null, .null, .int 0, .null, .null, .null, .null, .null, .null, .null, .null, .null, .int 0, .int 0, .int 0, .int 0, .int 0, .int 0, .int 0, .int 0, .int 0, .int 0, .null, .null, .null, .null, .int 0, .int 0, .int 0, .int 0, .null, .null, .null, .null, .null, .null, .null, .int 0, .null, .null, .null, .null, .null, .null, .int 0, .null, .null, .null, .null, .null, .int 0, .int 0, .int 0, .int 0, .null, .null, .null, .null, .null] := ⟨RX12, TX12, tyX12, rfl, kbX12_in, tyX12_ok, by decide, rfl, by simp, kt6 (i := 176) rfl rfl, kt6 (i := 177) rfl rfl, kt1 (i := 12) rfl rfl⟩
theorem obX12_3 : Cond.methodLink "KnockBookModel" 3 Lib.objectInit ∈ kbT := kt6 (i := 181) rfl rfl
theorem nqX12_9 : Cond.classLink "KnockBookModel" 9 "java/lang/String" ∈ kbT := kt6 (i := 182) rfl rfl
theorem lsX12_11 : (("KnockBookModel", 11, "thing", 0) : String × Nat × String × Nat) ∈ kbSR := List.mem_of_getElem? (i := 32) rfl
theorem lsX12_13 : (("KnockBookModel", 13, "deed", 1) : String × Nat × String × Nat) ∈ kbSR := List.mem_of_getElem? (i := 33) rfl
theorem lsX12_15 : (("KnockBookModel", 15, "prayer", 2) : String × Nat × String × Nat) ∈ kbSR := List.mem_of_getElem? (i := 34) rfl
theorem fpX12_17 : kbFP "KnockBookModel" 17 11 0 true (.array (.object "java/lang/String")) := ⟨TX12, 60, tyX12, rfl, by decide, kbX12_in, tyX12_ok, nmX12, rfl, rfl, rfl, kt6 (i := 197) rfl rfl⟩
theorem lsX12_21 : (("KnockBookModel", 21, "pine", 3) : String × Nat × String × Nat) ∈ kbSR := List.mem_of_getElem? (i := 35) rfl
theorem lsX12_23 : (("KnockBookModel", 23, "oak", 4) : String × Nat × String × Nat) ∈ kbSR := List.mem_of_getElem? (i := 36) rfl
theorem lsX12_25 : (("KnockBookModel", 25, "felt", 5) : String × Nat × String × Nat) ∈ kbSR := List.mem_of_getElem? (i := 37) rfl
theorem lsX12_27 : (("KnockBookModel", 27, "glass", 6) : String × Nat × String × Nat) ∈ kbSR := List.mem_of_getElem? (i := 39) rfl
theorem fpX12_29 : kbFP "KnockBookModel" 29 11 1 true (.array (.object "java/lang/String")) := ⟨TX12, 60, tyX12, rfl, by decide, kbX12_in, tyX12_ok, nmX12, rfl, rfl, rfl, kt6 (i := 198) rfl rfl⟩
theorem lsX12_32 : (("KnockBookModel", 32, "left", 7) : String × Nat × String × Nat) ∈ kbSR := List.mem_of_getElem? (i := 43) rfl
theorem lsX12_34 : (("KnockBookModel", 34, "right", 8) : String × Nat × String × Nat) ∈ kbSR := List.mem_of_getElem? (i := 44) rfl
theorem lsX12_36 : (("KnockBookModel", 36, "first", 9) : String × Nat × String × Nat) ∈ kbSR := List.mem_of_getElem? (i := 45) rfl
theorem lsX12_38 : (("KnockBookModel", 38, "next", 10) : String × Nat × String × Nat) ∈ kbSR := List.mem_of_getElem? (i := 46) rfl
theorem lsX12_40 : (("KnockBookModel", 40, "long", 11) : String × Nat × String × Nat) ∈ kbSR := List.mem_of_getElem? (i := 47) rfl
theorem lsX12_42 : (("KnockBookModel", 42, "same", 12) : String × Nat × String × Nat) ∈ kbSR := List.mem_of_getElem? (i := 48) rfl
theorem fpX12_44 : kbFP "KnockBookModel" 44 11 2 true (.array (.object "java/lang/String")) := ⟨TX12, 60, tyX12, rfl, by decide, kbX12_in, tyX12_ok, nmX12, rfl, rfl, rfl, kt6 (i := 199) rfl rfl⟩
theorem fpX12_47 : kbFP "KnockBookModel" 47 11 4 true (.array .int) := ⟨TX12, 60, tyX12, rfl, by decide, kbX12_in, tyX12_ok, nmX12, rfl, rfl, rfl, kt6 (i := 201) rfl rfl⟩
theorem fpX12_51 : kbFP "KnockBookModel" 51 11 5 true (.array .int) := ⟨TX12, 60, tyX12, rfl, by decide, kbX12_in, tyX12_ok, nmX12, rfl, rfl, rfl, kt6 (i := 202) rfl rfl⟩
theorem fpX12_54 : kbFP "KnockBookModel" 54 11 6 true (.array .int) := ⟨TX12, 60, tyX12, rfl, by decide, kbX12_in, tyX12_ok, nmX12, rfl, rfl, rfl, kt6 (i := 203) rfl rfl⟩
theorem fpX12_57 : kbFP "KnockBookModel" 57 11 7 true (.array .int) := ⟨TX12, 60, tyX12, rfl, by decide, kbX12_in, tyX12_ok, nmX12, rfl, rfl, rfl, kt6 (i := 204) rfl rfl⟩
theorem fpX12_60 : kbFP "KnockBookModel" 60 11 8 true (.array .int) := ⟨TX12, 60, tyX12, rfl, by decide, kbX12_in, tyX12_ok, nmX12, rfl, rfl, rfl, kt6 (i := 205) rfl rfl⟩
theorem fpX12_63 : kbFP "KnockBookModel" 63 11 9 true (.array .int) := ⟨TX12, 60, tyX12, rfl, by decide, kbX12_in, tyX12_ok, nmX12, rfl, rfl, rfl, kt6 (i := 206) rfl rfl⟩
theorem fpX12_66 : kbFP "KnockBookModel" 66 11 10 true (.array .int) := ⟨TX12, 60, tyX12, rfl, by decide, kbX12_in, tyX12_ok, nmX12, rfl, rfl, rfl, kt6 (i := 207) rfl rfl⟩
theorem fpX12_69 : kbFP "KnockBookModel" 69 11 11 true (.array .int) := ⟨TX12, 60, tyX12, rfl, by decide, kbX12_in, tyX12_ok, nmX12, rfl, rfl, rfl, kt6 (i := 208) rfl rfl⟩
theorem fpX12_72 : kbFP "KnockBookModel" 72 11 12 true (.array .int) := ⟨TX12, 60, tyX12, rfl, by decide, kbX12_in, tyX12_ok, nmX12, rfl, rfl, rfl, kt6 (i := 209) rfl rfl⟩
theorem fpX12_75 : kbFP "KnockBookModel" 75 11 22 false (.int) := ⟨TX12, 60, tyX12, rfl, by decide, kbX12_in, tyX12_ok, nmX12, rfl, rfl, rfl, kt6 (i := 219) rfl rfl⟩
theorem fpX12_79 : kbFP "KnockBookModel" 79 11 23 true (.array .int) := ⟨TX12, 60, tyX12, rfl, by decide, kbX12_in, tyX12_ok, nmX12, rfl, rfl, rfl, kt6 (i := 220) rfl rfl⟩
theorem fpX12_82 : kbFP "KnockBookModel" 82 11 24 true (.array .int) := ⟨TX12, 60, tyX12, rfl, by decide, kbX12_in, tyX12_ok, nmX12, rfl, rfl, rfl, kt6 (i := 221) rfl rfl⟩
theorem fpX12_85 : kbFP "KnockBookModel" 85 11 25 true (.array .int) := ⟨TX12, 60, tyX12, rfl, by decide, kbX12_in, tyX12_ok, nmX12, rfl, rfl, rfl, kt6 (i := 222) rfl rfl⟩
theorem fpX12_88 : kbFP "KnockBookModel" 88 11 26 true (.array .int) := ⟨TX12, 60, tyX12, rfl, by decide, kbX12_in, tyX12_ok, nmX12, rfl, rfl, rfl, kt6 (i := 223) rfl rfl⟩
theorem fpX12_91 : kbFP "KnockBookModel" 91 11 31 true (.array .int) := ⟨TX12, 60, tyX12, rfl, by decide, kbX12_in, tyX12_ok, nmX12, rfl, rfl, rfl, kt6 (i := 228) rfl rfl⟩
theorem fpX12_94 : kbFP "KnockBookModel" 94 11 32 true (.array .int) := ⟨TX12, 60, tyX12, rfl, by decide, kbX12_in, tyX12_ok, nmX12, rfl, rfl, rfl, kt6 (i := 229) rfl rfl⟩
theorem fpX12_97 : kbFP "KnockBookModel" 97 11 33 true (.array .int) := ⟨TX12, 60, tyX12, rfl, by decide, kbX12_in, tyX12_ok, nmX12, rfl, rfl, rfl, kt6 (i := 230) rfl rfl⟩
theorem fpX12_100 : kbFP "KnockBookModel" 100 11 34 true (.array .int) := ⟨TX12, 60, tyX12, rfl, by decide, kbX12_in, tyX12_ok, nmX12, rfl, rfl, rfl, kt6 (i := 231) rfl rfl⟩
theorem fpX12_103 : kbFP "KnockBookModel" 103 11 35 true (.array .int) := ⟨TX12, 60, tyX12, rfl, by decide, kbX12_in, tyX12_ok, nmX12, rfl, rfl, rfl, kt6 (i := 232) rfl rfl⟩
theorem fpX12_106 : kbFP "KnockBookModel" 106 11 36 true (.array .int) := ⟨TX12, 60, tyX12, rfl, by decide, kbX12_in, tyX12_ok, nmX12, rfl, rfl, rfl, kt6 (i := 233) rfl rfl⟩
theorem fpX12_109 : kbFP "KnockBookModel" 109 11 37 true (.array .long) := ⟨TX12, 60, tyX12, rfl, by decide, kbX12_in, tyX12_ok, nmX12, rfl, rfl, rfl, kt6 (i := 234) rfl rfl⟩
theorem fpX12_113 : kbFP "KnockBookModel" 113 11 39 true (.array .int) := ⟨TX12, 60, tyX12, rfl, by decide, kbX12_in, tyX12_ok, nmX12, rfl, rfl, rfl, kt6 (i := 236) rfl rfl⟩
theorem fpX12_116 : kbFP "KnockBookModel" 116 11 40 true (.array .int) := ⟨TX12, 60, tyX12, rfl, by decide, kbX12_in, tyX12_ok, nmX12, rfl, rfl, rfl, kt6 (i := 237) rfl rfl⟩
theorem fpX12_118 : kbFP "KnockBookModel" 118 11 41 true (.array .int) := ⟨TX12, 60, tyX12, rfl, by decide, kbX12_in, tyX12_ok, nmX12, rfl, rfl, rfl, kt6 (i := 238) rfl rfl⟩
theorem fpX12_120 : kbFP "KnockBookModel" 120 11 42 true (.array .int) := ⟨TX12, 60, tyX12, rfl, by decide, kbX12_in, tyX12_ok, nmX12, rfl, rfl, rfl, kt6 (i := 239) rfl rfl⟩
theorem fpX12_123 : kbFP "KnockBookModel" 123 11 43 true (.array .int) := ⟨TX12, 60, tyX12, rfl, by decide, kbX12_in, tyX12_ok, nmX12, rfl, rfl, rfl, kt7 (i := 0) rfl rfl⟩
theorem fpX12_126 : kbFP "KnockBookModel" 126 11 44 true (.array .int) := ⟨TX12, 60, tyX12, rfl, by decide, kbX12_in, tyX12_ok, nmX12, rfl, rfl, rfl, kt7 (i := 1) rfl rfl⟩
theorem fpX12_129 : kbFP "KnockBookModel" 129 11 46 true (.array .int) := ⟨TX12, 60, tyX12, rfl, by decide, kbX12_in, tyX12_ok, nmX12, rfl, rfl, rfl, kt7 (i := 3) rfl rfl⟩
theorem fpX12_132 : kbFP "KnockBookModel" 132 11 47 true (.array .long) := ⟨TX12, 60, tyX12, rfl, by decide, kbX12_in, tyX12_ok, nmX12, rfl, rfl, rfl, kt7 (i := 4) rfl rfl⟩
theorem fpX12_135 : kbFP "KnockBookModel" 135 11 48 true (.array .int) := ⟨TX12, 60, tyX12, rfl, by decide, kbX12_in, tyX12_ok, nmX12, rfl, rfl, rfl, kt7 (i := 5) rfl rfl⟩
theorem fpX12_138 : kbFP "KnockBookModel" 138 11 49 true (.array .int) := ⟨TX12, 60, tyX12, rfl, by decide, kbX12_in, tyX12_ok, nmX12, rfl, rfl, rfl, kt7 (i := 6) rfl rfl⟩
theorem fpX12_141 : kbFP "KnockBookModel" 141 11 50 true (.array .int) := ⟨TX12, 60, tyX12, rfl, by decide, kbX12_in, tyX12_ok, nmX12, rfl, rfl, rfl, kt7 (i := 7) rfl rfl⟩
theorem fpX12_144 : kbFP "KnockBookModel" 144 11 55 true (.array .int) := ⟨TX12, 60, tyX12, rfl, by decide, kbX12_in, tyX12_ok, nmX12, rfl, rfl, rfl, kt7 (i := 12) rfl rfl⟩
theorem fpX12_147 : kbFP "KnockBookModel" 147 11 56 true (.array .int) := ⟨TX12, 60, tyX12, rfl, by decide, kbX12_in, tyX12_ok, nmX12, rfl, rfl, rfl, kt7 (i := 13) rfl rfl⟩
theorem fpX12_150 : kbFP "KnockBookModel" 150 11 57 true (.array .int) := ⟨TX12, 60, tyX12, rfl, by decide, kbX12_in, tyX12_ok, nmX12, rfl, rfl, rfl, kt7 (i := 14) rfl rfl⟩
theorem fpX12_153 : kbFP "KnockBookModel" 153 11 58 true (.array .int) := ⟨TX12, 60, tyX12, rfl, by decide, kbX12_in, tyX12_ok, nmX12, rfl, rfl, rfl, kt7 (i := 15) rfl rfl⟩
theorem fpX12_156 : kbFP "KnockBookModel" 156 11 59 true (.array .int) := ⟨TX12, 60, tyX12, rfl, by decide, kbX12_in, tyX12_ok, nmX12, rfl, rfl, rfl, kt7 (i := 16) rfl rfl⟩
theorem ciL_94 : kbCI "KnockBookLaw" 94 MX12_init 0 := ⟨List.forall_mem_cons.mpr ⟨kt6 (i := 179) rfl rfl, List.forall_mem_cons.mpr ⟨kt1 (i := 12) rfl rfl, List.forall_mem_cons.mpr ⟨kt6 (i := 180) rfl rfl, fun _ h => nomatch h⟩⟩⟩, rfl, rfl, by decide +kernel, Or.inl (kt6 (i := 178) rfl rfl)⟩
theorem dX0_init_0 : decode cX0_init 0 = .ok (.aload_n 0, 1) := by decide +kernel
theorem dX0_init_1 : decode cX0_init 1 = .ok (.invokespecial 3, 3) := by decide +kernel
theorem dX0_init_4 : decode cX0_init 4 = .ok (.aload_n 0, 1) := by decide +kernel
theorem dX0_init_5 : decode cX0_init 5 = .ok (.sipush 150, 3) := by decide +kernel
theorem dX0_init_8 : decode cX0_init 8 = .ok (.newarray .int, 2) := by decide +kernel
theorem dX0_init_10 : decode cX0_init 10 = .ok (.putfield 9, 3) := by decide +kernel
theorem dX0_init_13 : decode cX0_init 13 = .ok (.aload_n 0, 1) := by decide +kernel
theorem dX0_init_14 : decode cX0_init 14 = .ok (.new 15, 3) := by decide +kernel
theorem dX0_init_17 : decode cX0_init 17 = .ok (.dup, 1) := by decide +kernel
theorem dX0_init_18 : decode cX0_init 18 = .ok (.invokespecial 17, 3) := by decide +kernel
theorem dX0_init_21 : decode cX0_init 21 = .ok (.putfield 18, 3) := by decide +kernel
theorem dX0_init_24 : decode cX0_init 24 = .ok (.aload_n 0, 1) := by decide +kernel
theorem dX0_init_25 : decode cX0_init 25 = .ok (.new 22, 3) := by decide +kernel
theorem dX0_init_28 : decode cX0_init 28 = .ok (.dup, 1) := by decide +kernel
theorem dX0_init_29 : decode cX0_init 29 = .ok (.invokespecial 24, 3) := by decide +kernel
theorem dX0_init_32 : decode cX0_init 32 = .ok (.putfield 25, 3) := by decide +kernel
theorem dX0_init_35 : decode cX0_init 35 = .ok (.aload_n 0, 1) := by decide +kernel
theorem dX0_init_36 : decode cX0_init 36 = .ok (.sipush 600, 3) := by decide +kernel
theorem dX0_init_39 : decode cX0_init 39 = .ok (.newarray .int, 2) := by decide +kernel
theorem dX0_init_41 : decode cX0_init 41 = .ok (.putfield 29, 3) := by decide +kernel
theorem dX0_init_44 : decode cX0_init 44 = .ok (.aload_n 0, 1) := by decide +kernel
theorem dX0_init_45 : decode cX0_init 45 = .ok (.iconst (-1), 1) := by decide +kernel
theorem dX0_init_46 : decode cX0_init 46 = .ok (.putfield 32, 3) := by decide +kernel
theorem dX0_init_49 : decode cX0_init 49 = .ok (.return_, 1) := by decide +kernel
theorem dX10_init_0 : decode cX10_init 0 = .ok (.aload_n 0, 1) := by decide +kernel
theorem dX10_init_1 : decode cX10_init 1 = .ok (.invokespecial 3, 3) := by decide +kernel
theorem dX10_init_4 : decode cX10_init 4 = .ok (.aload_n 0, 1) := by decide +kernel
theorem dX10_init_5 : decode cX10_init 5 = .ok (.bipush 10, 2) := by decide +kernel
theorem dX10_init_7 : decode cX10_init 7 = .ok (.newarray .int, 2) := by decide +kernel
theorem dX10_init_9 : decode cX10_init 9 = .ok (.putfield 9, 3) := by decide +kernel
theorem dX10_init_12 : decode cX10_init 12 = .ok (.aload_n 0, 1) := by decide +kernel
theorem dX10_init_13 : decode cX10_init 13 = .ok (.bipush 10, 2) := by decide +kernel
theorem dX10_init_15 : decode cX10_init 15 = .ok (.newarray .int, 2) := by decide +kernel
theorem dX10_init_17 : decode cX10_init 17 = .ok (.putfield 15, 3) := by decide +kernel
theorem dX10_init_20 : decode cX10_init 20 = .ok (.aload_n 0, 1) := by decide +kernel
theorem dX10_init_21 : decode cX10_init 21 = .ok (.bipush 10, 2) := by decide +kernel
theorem dX10_init_23 : decode cX10_init 23 = .ok (.newarray .int, 2) := by decide +kernel
theorem dX10_init_25 : decode cX10_init 25 = .ok (.putfield 18, 3) := by decide +kernel
theorem dX10_init_28 : decode cX10_init 28 = .ok (.aload_n 0, 1) := by decide +kernel
theorem dX10_init_29 : decode cX10_init 29 = .ok (.bipush 10, 2) := by decide +kernel
theorem dX10_init_31 : decode cX10_init 31 = .ok (.newarray .int, 2) := by decide +kernel
theorem dX10_init_33 : decode cX10_init 33 = .ok (.putfield 21, 3) := by decide +kernel
theorem dX10_init_36 : decode cX10_init 36 = .ok (.return_, 1) := by decide +kernel
theorem dX11_init_0 : decode cX11_init 0 = .ok (.aload_n 0, 1) := by decide +kernel
theorem dX11_init_1 : decode cX11_init 1 = .ok (.invokespecial 1, 3) := by decide +kernel
theorem dX11_init_4 : decode cX11_init 4 = .ok (.aload_n 0, 1) := by decide +kernel
theorem dX11_init_5 : decode cX11_init 5 = .ok (.new 7, 3) := by decide +kernel
theorem dX11_init_8 : decode cX11_init 8 = .ok (.dup, 1) := by decide +kernel
theorem dX11_init_9 : decode cX11_init 9 = .ok (.invokespecial 9, 3) := by decide +kernel
theorem dX11_init_12 : decode cX11_init 12 = .ok (.putfield 10, 3) := by decide +kernel
theorem dX11_init_15 : decode cX11_init 15 = .ok (.aload_n 0, 1) := by decide +kernel
theorem dX11_init_16 : decode cX11_init 16 = .ok (.new 16, 3) := by decide +kernel
theorem dX11_init_19 : decode cX11_init 19 = .ok (.dup, 1) := by decide +kernel
theorem dX11_init_20 : decode cX11_init 20 = .ok (.invokespecial 18, 3) := by decide +kernel
theorem dX11_init_23 : decode cX11_init 23 = .ok (.putfield 19, 3) := by decide +kernel
theorem dX11_init_26 : decode cX11_init 26 = .ok (.aload_n 0, 1) := by decide +kernel
theorem dX11_init_27 : decode cX11_init 27 = .ok (.new 16, 3) := by decide +kernel
theorem dX11_init_30 : decode cX11_init 30 = .ok (.dup, 1) := by decide +kernel
theorem dX11_init_31 : decode cX11_init 31 = .ok (.invokespecial 18, 3) := by decide +kernel
theorem dX11_init_34 : decode cX11_init 34 = .ok (.putfield 23, 3) := by decide +kernel
theorem dX11_init_37 : decode cX11_init 37 = .ok (.aload_n 0, 1) := by decide +kernel
theorem dX11_init_38 : decode cX11_init 38 = .ok (.new 26, 3) := by decide +kernel
theorem dX11_init_41 : decode cX11_init 41 = .ok (.dup, 1) := by decide +kernel
theorem dX11_init_42 : decode cX11_init 42 = .ok (.invokespecial 28, 3) := by decide +kernel
theorem dX11_init_45 : decode cX11_init 45 = .ok (.putfield 29, 3) := by decide +kernel
theorem dX11_init_48 : decode cX11_init 48 = .ok (.aload_n 0, 1) := by decide +kernel
theorem dX11_init_49 : decode cX11_init 49 = .ok (.new 33, 3) := by decide +kernel
theorem dX11_init_52 : decode cX11_init 52 = .ok (.dup, 1) := by decide +kernel
theorem dX11_init_53 : decode cX11_init 53 = .ok (.aload_n 0, 1) := by decide +kernel
theorem dX11_init_54 : decode cX11_init 54 = .ok (.getfield 19, 3) := by decide +kernel
theorem dX11_init_57 : decode cX11_init 57 = .ok (.getfield 35, 3) := by decide +kernel
theorem dX11_init_60 : decode cX11_init 60 = .ok (.invokespecial 39, 3) := by decide +kernel
theorem dX11_init_63 : decode cX11_init 63 = .ok (.putfield 42, 3) := by decide +kernel
theorem dX11_init_66 : decode cX11_init 66 = .ok (.aload_n 0, 1) := by decide +kernel
theorem dX11_init_67 : decode cX11_init 67 = .ok (.new 46, 3) := by decide +kernel
theorem dX11_init_70 : decode cX11_init 70 = .ok (.dup, 1) := by decide +kernel
theorem dX11_init_71 : decode cX11_init 71 = .ok (.aload_n 0, 1) := by decide +kernel
theorem dX11_init_72 : decode cX11_init 72 = .ok (.getfield 19, 3) := by decide +kernel
theorem dX11_init_75 : decode cX11_init 75 = .ok (.getfield 35, 3) := by decide +kernel
theorem dX11_init_78 : decode cX11_init 78 = .ok (.invokespecial 48, 3) := by decide +kernel
theorem dX11_init_81 : decode cX11_init 81 = .ok (.putfield 49, 3) := by decide +kernel
theorem dX11_init_84 : decode cX11_init 84 = .ok (.aload_n 0, 1) := by decide +kernel
theorem dX11_init_85 : decode cX11_init 85 = .ok (.new 53, 3) := by decide +kernel
theorem dX11_init_88 : decode cX11_init 88 = .ok (.dup, 1) := by decide +kernel
theorem dX11_init_89 : decode cX11_init 89 = .ok (.aload_n 0, 1) := by decide +kernel
theorem dX11_init_90 : decode cX11_init 90 = .ok (.getfield 19, 3) := by decide +kernel
theorem dX11_init_93 : decode cX11_init 93 = .ok (.getfield 35, 3) := by decide +kernel
theorem dX11_init_96 : decode cX11_init 96 = .ok (.aload_n 0, 1) := by decide +kernel
theorem dX11_init_97 : decode cX11_init 97 = .ok (.getfield 42, 3) := by decide +kernel
theorem dX11_init_100 : decode cX11_init 100 = .ok (.invokespecial 55, 3) := by decide +kernel
theorem dX11_init_103 : decode cX11_init 103 = .ok (.putfield 58, 3) := by decide +kernel
theorem dX11_init_106 : decode cX11_init 106 = .ok (.aload_n 0, 1) := by decide +kernel
theorem dX11_init_107 : decode cX11_init 107 = .ok (.new 62, 3) := by decide +kernel
theorem dX11_init_110 : decode cX11_init 110 = .ok (.dup, 1) := by decide +kernel
theorem dX11_init_111 : decode cX11_init 111 = .ok (.aload_n 0, 1) := by decide +kernel
theorem dX11_init_112 : decode cX11_init 112 = .ok (.getfield 19, 3) := by decide +kernel
theorem dX11_init_115 : decode cX11_init 115 = .ok (.getfield 35, 3) := by decide +kernel
theorem dX11_init_118 : decode cX11_init 118 = .ok (.invokespecial 64, 3) := by decide +kernel
theorem dX11_init_121 : decode cX11_init 121 = .ok (.putfield 65, 3) := by decide +kernel
theorem dX11_init_124 : decode cX11_init 124 = .ok (.aload_n 0, 1) := by decide +kernel
theorem dX11_init_125 : decode cX11_init 125 = .ok (.new 69, 3) := by decide +kernel
theorem dX11_init_128 : decode cX11_init 128 = .ok (.dup, 1) := by decide +kernel
theorem dX11_init_129 : decode cX11_init 129 = .ok (.aload_n 0, 1) := by decide +kernel
theorem dX11_init_130 : decode cX11_init 130 = .ok (.getfield 29, 3) := by decide +kernel
theorem dX11_init_133 : decode cX11_init 133 = .ok (.aload_n 0, 1) := by decide +kernel
theorem dX11_init_134 : decode cX11_init 134 = .ok (.getfield 19, 3) := by decide +kernel
theorem dX11_init_137 : decode cX11_init 137 = .ok (.invokespecial 71, 3) := by decide +kernel
theorem dX11_init_140 : decode cX11_init 140 = .ok (.putfield 74, 3) := by decide +kernel
theorem dX11_init_143 : decode cX11_init 143 = .ok (.aload_n 0, 1) := by decide +kernel
theorem dX11_init_144 : decode cX11_init 144 = .ok (.new 78, 3) := by decide +kernel
theorem dX11_init_147 : decode cX11_init 147 = .ok (.dup, 1) := by decide +kernel
theorem dX11_init_148 : decode cX11_init 148 = .ok (.aload_n 0, 1) := by decide +kernel
theorem dX11_init_149 : decode cX11_init 149 = .ok (.getfield 74, 3) := by decide +kernel
theorem dX11_init_152 : decode cX11_init 152 = .ok (.aload_n 0, 1) := by decide +kernel
theorem dX11_init_153 : decode cX11_init 153 = .ok (.getfield 49, 3) := by decide +kernel
theorem dX11_init_156 : decode cX11_init 156 = .ok (.invokespecial 80, 3) := by decide +kernel
theorem dX11_init_159 : decode cX11_init 159 = .ok (.putfield 83, 3) := by decide +kernel
theorem dX11_init_162 : decode cX11_init 162 = .ok (.return_, 1) := by decide +kernel
theorem dX12_init_0 : decode cX12_init 0 = .ok (.aload_n 0, 1) := by decide +kernel
theorem dX12_init_1 : decode cX12_init 1 = .ok (.invokespecial 3, 3) := by decide +kernel
theorem dX12_init_4 : decode cX12_init 4 = .ok (.aload_n 0, 1) := by decide +kernel
theorem dX12_init_5 : decode cX12_init 5 = .ok (.iconst 3, 1) := by decide +kernel
theorem dX12_init_6 : decode cX12_init 6 = .ok (.anewarray 9, 3) := by decide +kernel
theorem dX12_init_9 : decode cX12_init 9 = .ok (.dup, 1) := by decide +kernel
theorem dX12_init_10 : decode cX12_init 10 = .ok (.iconst 0, 1) := by decide +kernel
theorem dX12_init_11 : decode cX12_init 11 = .ok (.ldc 11, 2) := by decide +kernel
theorem dX12_init_13 : decode cX12_init 13 = .ok (.aastore, 1) := by decide +kernel
theorem dX12_init_14 : decode cX12_init 14 = .ok (.dup, 1) := by decide +kernel
theorem dX12_init_15 : decode cX12_init 15 = .ok (.iconst 1, 1) := by decide +kernel
theorem dX12_init_16 : decode cX12_init 16 = .ok (.ldc 13, 2) := by decide +kernel
theorem dX12_init_18 : decode cX12_init 18 = .ok (.aastore, 1) := by decide +kernel
theorem dX12_init_19 : decode cX12_init 19 = .ok (.dup, 1) := by decide +kernel
theorem dX12_init_20 : decode cX12_init 20 = .ok (.iconst 2, 1) := by decide +kernel
theorem dX12_init_21 : decode cX12_init 21 = .ok (.ldc 15, 2) := by decide +kernel
theorem dX12_init_23 : decode cX12_init 23 = .ok (.aastore, 1) := by decide +kernel
theorem dX12_init_24 : decode cX12_init 24 = .ok (.putfield 17, 3) := by decide +kernel
theorem dX12_init_27 : decode cX12_init 27 = .ok (.aload_n 0, 1) := by decide +kernel
theorem dX12_init_28 : decode cX12_init 28 = .ok (.iconst 4, 1) := by decide +kernel
theorem dX12_init_29 : decode cX12_init 29 = .ok (.anewarray 9, 3) := by decide +kernel
theorem dX12_init_32 : decode cX12_init 32 = .ok (.dup, 1) := by decide +kernel
theorem dX12_init_33 : decode cX12_init 33 = .ok (.iconst 0, 1) := by decide +kernel
theorem dX12_init_34 : decode cX12_init 34 = .ok (.ldc 21, 2) := by decide +kernel
theorem dX12_init_36 : decode cX12_init 36 = .ok (.aastore, 1) := by decide +kernel
theorem dX12_init_37 : decode cX12_init 37 = .ok (.dup, 1) := by decide +kernel
theorem dX12_init_38 : decode cX12_init 38 = .ok (.iconst 1, 1) := by decide +kernel
theorem dX12_init_39 : decode cX12_init 39 = .ok (.ldc 23, 2) := by decide +kernel
theorem dX12_init_41 : decode cX12_init 41 = .ok (.aastore, 1) := by decide +kernel
theorem dX12_init_42 : decode cX12_init 42 = .ok (.dup, 1) := by decide +kernel
theorem dX12_init_43 : decode cX12_init 43 = .ok (.iconst 2, 1) := by decide +kernel
theorem dX12_init_44 : decode cX12_init 44 = .ok (.ldc 25, 2) := by decide +kernel
theorem dX12_init_46 : decode cX12_init 46 = .ok (.aastore, 1) := by decide +kernel
theorem dX12_init_47 : decode cX12_init 47 = .ok (.dup, 1) := by decide +kernel
theorem dX12_init_48 : decode cX12_init 48 = .ok (.iconst 3, 1) := by decide +kernel
theorem dX12_init_49 : decode cX12_init 49 = .ok (.ldc 27, 2) := by decide +kernel
theorem dX12_init_51 : decode cX12_init 51 = .ok (.aastore, 1) := by decide +kernel
theorem dX12_init_52 : decode cX12_init 52 = .ok (.putfield 29, 3) := by decide +kernel
theorem dX12_init_55 : decode cX12_init 55 = .ok (.aload_n 0, 1) := by decide +kernel
theorem dX12_init_56 : decode cX12_init 56 = .ok (.bipush 6, 2) := by decide +kernel
theorem dX12_init_58 : decode cX12_init 58 = .ok (.anewarray 9, 3) := by decide +kernel
theorem dX12_init_61 : decode cX12_init 61 = .ok (.dup, 1) := by decide +kernel
theorem dX12_init_62 : decode cX12_init 62 = .ok (.iconst 0, 1) := by decide +kernel
theorem dX12_init_63 : decode cX12_init 63 = .ok (.ldc 32, 2) := by decide +kernel
theorem dX12_init_65 : decode cX12_init 65 = .ok (.aastore, 1) := by decide +kernel
theorem dX12_init_66 : decode cX12_init 66 = .ok (.dup, 1) := by decide +kernel
theorem dX12_init_67 : decode cX12_init 67 = .ok (.iconst 1, 1) := by decide +kernel
theorem dX12_init_68 : decode cX12_init 68 = .ok (.ldc 34, 2) := by decide +kernel
theorem dX12_init_70 : decode cX12_init 70 = .ok (.aastore, 1) := by decide +kernel
theorem dX12_init_71 : decode cX12_init 71 = .ok (.dup, 1) := by decide +kernel
theorem dX12_init_72 : decode cX12_init 72 = .ok (.iconst 2, 1) := by decide +kernel
theorem dX12_init_73 : decode cX12_init 73 = .ok (.ldc 36, 2) := by decide +kernel
theorem dX12_init_75 : decode cX12_init 75 = .ok (.aastore, 1) := by decide +kernel
theorem dX12_init_76 : decode cX12_init 76 = .ok (.dup, 1) := by decide +kernel
theorem dX12_init_77 : decode cX12_init 77 = .ok (.iconst 3, 1) := by decide +kernel
theorem dX12_init_78 : decode cX12_init 78 = .ok (.ldc 38, 2) := by decide +kernel
theorem dX12_init_80 : decode cX12_init 80 = .ok (.aastore, 1) := by decide +kernel
theorem dX12_init_81 : decode cX12_init 81 = .ok (.dup, 1) := by decide +kernel
theorem dX12_init_82 : decode cX12_init 82 = .ok (.iconst 4, 1) := by decide +kernel
theorem dX12_init_83 : decode cX12_init 83 = .ok (.ldc 40, 2) := by decide +kernel
theorem dX12_init_85 : decode cX12_init 85 = .ok (.aastore, 1) := by decide +kernel
theorem dX12_init_86 : decode cX12_init 86 = .ok (.dup, 1) := by decide +kernel
theorem dX12_init_87 : decode cX12_init 87 = .ok (.iconst 5, 1) := by decide +kernel
theorem dX12_init_88 : decode cX12_init 88 = .ok (.ldc 42, 2) := by decide +kernel
theorem dX12_init_90 : decode cX12_init 90 = .ok (.aastore, 1) := by decide +kernel
theorem dX12_init_91 : decode cX12_init 91 = .ok (.putfield 44, 3) := by decide +kernel
theorem dX12_init_94 : decode cX12_init 94 = .ok (.aload_n 0, 1) := by decide +kernel
theorem dX12_init_95 : decode cX12_init 95 = .ok (.bipush 6, 2) := by decide +kernel
theorem dX12_init_97 : decode cX12_init 97 = .ok (.newarray .int, 2) := by decide +kernel
theorem dX12_init_99 : decode cX12_init 99 = .ok (.putfield 47, 3) := by decide +kernel
theorem dX12_init_102 : decode cX12_init 102 = .ok (.aload_n 0, 1) := by decide +kernel
theorem dX12_init_103 : decode cX12_init 103 = .ok (.bipush 20, 2) := by decide +kernel
theorem dX12_init_105 : decode cX12_init 105 = .ok (.newarray .int, 2) := by decide +kernel
theorem dX12_init_107 : decode cX12_init 107 = .ok (.putfield 51, 3) := by decide +kernel
theorem dX12_init_110 : decode cX12_init 110 = .ok (.aload_n 0, 1) := by decide +kernel
theorem dX12_init_111 : decode cX12_init 111 = .ok (.bipush 20, 2) := by decide +kernel
theorem dX12_init_113 : decode cX12_init 113 = .ok (.newarray .int, 2) := by decide +kernel
theorem dX12_init_115 : decode cX12_init 115 = .ok (.putfield 54, 3) := by decide +kernel
theorem dX12_init_118 : decode cX12_init 118 = .ok (.aload_n 0, 1) := by decide +kernel
theorem dX12_init_119 : decode cX12_init 119 = .ok (.bipush 20, 2) := by decide +kernel
theorem dX12_init_121 : decode cX12_init 121 = .ok (.newarray .int, 2) := by decide +kernel
theorem dX12_init_123 : decode cX12_init 123 = .ok (.putfield 57, 3) := by decide +kernel
theorem dX12_init_126 : decode cX12_init 126 = .ok (.aload_n 0, 1) := by decide +kernel
theorem dX12_init_127 : decode cX12_init 127 = .ok (.bipush 12, 2) := by decide +kernel
theorem dX12_init_129 : decode cX12_init 129 = .ok (.newarray .int, 2) := by decide +kernel
theorem dX12_init_131 : decode cX12_init 131 = .ok (.putfield 60, 3) := by decide +kernel
theorem dX12_init_134 : decode cX12_init 134 = .ok (.aload_n 0, 1) := by decide +kernel
theorem dX12_init_135 : decode cX12_init 135 = .ok (.bipush 12, 2) := by decide +kernel
theorem dX12_init_137 : decode cX12_init 137 = .ok (.newarray .int, 2) := by decide +kernel
theorem dX12_init_139 : decode cX12_init 139 = .ok (.putfield 63, 3) := by decide +kernel
theorem dX12_init_142 : decode cX12_init 142 = .ok (.aload_n 0, 1) := by decide +kernel
theorem dX12_init_143 : decode cX12_init 143 = .ok (.sipush 1200, 3) := by decide +kernel
theorem dX12_init_146 : decode cX12_init 146 = .ok (.newarray .int, 2) := by decide +kernel
theorem dX12_init_148 : decode cX12_init 148 = .ok (.putfield 66, 3) := by decide +kernel
theorem dX12_init_151 : decode cX12_init 151 = .ok (.aload_n 0, 1) := by decide +kernel
theorem dX12_init_152 : decode cX12_init 152 = .ok (.iconst 3, 1) := by decide +kernel
theorem dX12_init_153 : decode cX12_init 153 = .ok (.newarray .int, 2) := by decide +kernel
theorem dX12_init_155 : decode cX12_init 155 = .ok (.putfield 69, 3) := by decide +kernel
theorem dX12_init_158 : decode cX12_init 158 = .ok (.aload_n 0, 1) := by decide +kernel
theorem dX12_init_159 : decode cX12_init 159 = .ok (.sipush 600, 3) := by decide +kernel
theorem dX12_init_162 : decode cX12_init 162 = .ok (.newarray .int, 2) := by decide +kernel
theorem dX12_init_164 : decode cX12_init 164 = .ok (.putfield 72, 3) := by decide +kernel
theorem dX12_init_167 : decode cX12_init 167 = .ok (.aload_n 0, 1) := by decide +kernel
theorem dX12_init_168 : decode cX12_init 168 = .ok (.iconst (-1), 1) := by decide +kernel
theorem dX12_init_169 : decode cX12_init 169 = .ok (.putfield 75, 3) := by decide +kernel
theorem dX12_init_172 : decode cX12_init 172 = .ok (.aload_n 0, 1) := by decide +kernel
theorem dX12_init_173 : decode cX12_init 173 = .ok (.bipush 10, 2) := by decide +kernel
theorem dX12_init_175 : decode cX12_init 175 = .ok (.newarray .int, 2) := by decide +kernel
theorem dX12_init_177 : decode cX12_init 177 = .ok (.putfield 79, 3) := by decide +kernel
theorem dX12_init_180 : decode cX12_init 180 = .ok (.aload_n 0, 1) := by decide +kernel
theorem dX12_init_181 : decode cX12_init 181 = .ok (.bipush 10, 2) := by decide +kernel
theorem dX12_init_183 : decode cX12_init 183 = .ok (.newarray .int, 2) := by decide +kernel
theorem dX12_init_185 : decode cX12_init 185 = .ok (.putfield 82, 3) := by decide +kernel
theorem dX12_init_188 : decode cX12_init 188 = .ok (.aload_n 0, 1) := by decide +kernel
theorem dX12_init_189 : decode cX12_init 189 = .ok (.bipush 10, 2) := by decide +kernel
theorem dX12_init_191 : decode cX12_init 191 = .ok (.newarray .int, 2) := by decide +kernel
theorem dX12_init_193 : decode cX12_init 193 = .ok (.putfield 85, 3) := by decide +kernel
theorem dX12_init_196 : decode cX12_init 196 = .ok (.aload_n 0, 1) := by decide +kernel
theorem dX12_init_197 : decode cX12_init 197 = .ok (.sipush 1280, 3) := by decide +kernel
theorem dX12_init_200 : decode cX12_init 200 = .ok (.newarray .int, 2) := by decide +kernel
theorem dX12_init_202 : decode cX12_init 202 = .ok (.putfield 88, 3) := by decide +kernel
theorem dX12_init_205 : decode cX12_init 205 = .ok (.aload_n 0, 1) := by decide +kernel
theorem dX12_init_206 : decode cX12_init 206 = .ok (.bipush 6, 2) := by decide +kernel
theorem dX12_init_208 : decode cX12_init 208 = .ok (.newarray .int, 2) := by decide +kernel
theorem dX12_init_210 : decode cX12_init 210 = .ok (.putfield 91, 3) := by decide +kernel
theorem dX12_init_213 : decode cX12_init 213 = .ok (.aload_n 0, 1) := by decide +kernel
theorem dX12_init_214 : decode cX12_init 214 = .ok (.bipush 64, 2) := by decide +kernel
theorem dX12_init_216 : decode cX12_init 216 = .ok (.newarray .int, 2) := by decide +kernel
theorem dX12_init_218 : decode cX12_init 218 = .ok (.putfield 94, 3) := by decide +kernel
theorem dX12_init_221 : decode cX12_init 221 = .ok (.aload_n 0, 1) := by decide +kernel
theorem dX12_init_222 : decode cX12_init 222 = .ok (.bipush 12, 2) := by decide +kernel
theorem dX12_init_224 : decode cX12_init 224 = .ok (.newarray .int, 2) := by decide +kernel
theorem dX12_init_226 : decode cX12_init 226 = .ok (.putfield 97, 3) := by decide +kernel
theorem dX12_init_229 : decode cX12_init 229 = .ok (.aload_n 0, 1) := by decide +kernel
theorem dX12_init_230 : decode cX12_init 230 = .ok (.sipush 143, 3) := by decide +kernel
theorem dX12_init_233 : decode cX12_init 233 = .ok (.newarray .int, 2) := by decide +kernel
theorem dX12_init_235 : decode cX12_init 235 = .ok (.putfield 100, 3) := by decide +kernel
theorem dX12_init_238 : decode cX12_init 238 = .ok (.aload_n 0, 1) := by decide +kernel
theorem dX12_init_239 : decode cX12_init 239 = .ok (.bipush 60, 2) := by decide +kernel
theorem dX12_init_241 : decode cX12_init 241 = .ok (.newarray .int, 2) := by decide +kernel
theorem dX12_init_243 : decode cX12_init 243 = .ok (.putfield 103, 3) := by decide +kernel
theorem dX12_init_246 : decode cX12_init 246 = .ok (.aload_n 0, 1) := by decide +kernel
theorem dX12_init_247 : decode cX12_init 247 = .ok (.bipush 10, 2) := by decide +kernel
theorem dX12_init_249 : decode cX12_init 249 = .ok (.newarray .int, 2) := by decide +kernel
theorem dX12_init_251 : decode cX12_init 251 = .ok (.putfield 106, 3) := by decide +kernel
theorem dX12_init_254 : decode cX12_init 254 = .ok (.aload_n 0, 1) := by decide +kernel
theorem dX12_init_255 : decode cX12_init 255 = .ok (.sipush 143, 3) := by decide +kernel
theorem dX12_init_258 : decode cX12_init 258 = .ok (.newarray .long, 2) := by decide +kernel
theorem dX12_init_260 : decode cX12_init 260 = .ok (.putfield 109, 3) := by decide +kernel
theorem dX12_init_263 : decode cX12_init 263 = .ok (.aload_n 0, 1) := by decide +kernel
theorem dX12_init_264 : decode cX12_init 264 = .ok (.sipush 169, 3) := by decide +kernel
theorem dX12_init_267 : decode cX12_init 267 = .ok (.newarray .int, 2) := by decide +kernel
theorem dX12_init_269 : decode cX12_init 269 = .ok (.putfield 113, 3) := by decide +kernel
theorem dX12_init_272 : decode cX12_init 272 = .ok (.aload_n 0, 1) := by decide +kernel
theorem dX12_init_273 : decode cX12_init 273 = .ok (.bipush 12, 2) := by decide +kernel
theorem dX12_init_275 : decode cX12_init 275 = .ok (.newarray .int, 2) := by decide +kernel
theorem dX12_init_277 : decode cX12_init 277 = .ok (.putfield 116, 3) := by decide +kernel
theorem dX12_init_280 : decode cX12_init 280 = .ok (.aload_n 0, 1) := by decide +kernel
theorem dX12_init_281 : decode cX12_init 281 = .ok (.bipush 12, 2) := by decide +kernel
theorem dX12_init_283 : decode cX12_init 283 = .ok (.newarray .int, 2) := by decide +kernel
theorem dX12_init_285 : decode cX12_init 285 = .ok (.putfield 118, 3) := by decide +kernel
theorem dX12_init_288 : decode cX12_init 288 = .ok (.aload_n 0, 1) := by decide +kernel
theorem dX12_init_289 : decode cX12_init 289 = .ok (.bipush 70, 2) := by decide +kernel
theorem dX12_init_291 : decode cX12_init 291 = .ok (.newarray .int, 2) := by decide +kernel
theorem dX12_init_293 : decode cX12_init 293 = .ok (.putfield 120, 3) := by decide +kernel
theorem dX12_init_296 : decode cX12_init 296 = .ok (.aload_n 0, 1) := by decide +kernel
theorem dX12_init_297 : decode cX12_init 297 = .ok (.bipush 70, 2) := by decide +kernel
theorem dX12_init_299 : decode cX12_init 299 = .ok (.newarray .int, 2) := by decide +kernel
theorem dX12_init_301 : decode cX12_init 301 = .ok (.putfield 123, 3) := by decide +kernel
theorem dX12_init_304 : decode cX12_init 304 = .ok (.aload_n 0, 1) := by decide +kernel
theorem dX12_init_305 : decode cX12_init 305 = .ok (.sipush 3125, 3) := by decide +kernel
theorem dX12_init_308 : decode cX12_init 308 = .ok (.newarray .int, 2) := by decide +kernel
theorem dX12_init_310 : decode cX12_init 310 = .ok (.putfield 126, 3) := by decide +kernel
theorem dX12_init_313 : decode cX12_init 313 = .ok (.aload_n 0, 1) := by decide +kernel
theorem dX12_init_314 : decode cX12_init 314 = .ok (.sipush 130, 3) := by decide +kernel
theorem dX12_init_317 : decode cX12_init 317 = .ok (.newarray .int, 2) := by decide +kernel
theorem dX12_init_319 : decode cX12_init 319 = .ok (.putfield 129, 3) := by decide +kernel
theorem dX12_init_322 : decode cX12_init 322 = .ok (.aload_n 0, 1) := by decide +kernel
theorem dX12_init_323 : decode cX12_init 323 = .ok (.sipush 130, 3) := by decide +kernel
theorem dX12_init_326 : decode cX12_init 326 = .ok (.newarray .long, 2) := by decide +kernel
theorem dX12_init_328 : decode cX12_init 328 = .ok (.putfield 132, 3) := by decide +kernel
theorem dX12_init_331 : decode cX12_init 331 = .ok (.aload_n 0, 1) := by decide +kernel
theorem dX12_init_332 : decode cX12_init 332 = .ok (.bipush 8, 2) := by decide +kernel
theorem dX12_init_334 : decode cX12_init 334 = .ok (.newarray .int, 2) := by decide +kernel
theorem dX12_init_336 : decode cX12_init 336 = .ok (.putfield 135, 3) := by decide +kernel
theorem dX12_init_339 : decode cX12_init 339 = .ok (.aload_n 0, 1) := by decide +kernel
theorem dX12_init_340 : decode cX12_init 340 = .ok (.bipush 8, 2) := by decide +kernel
theorem dX12_init_342 : decode cX12_init 342 = .ok (.newarray .int, 2) := by decide +kernel
theorem dX12_init_344 : decode cX12_init 344 = .ok (.putfield 138, 3) := by decide +kernel
theorem dX12_init_347 : decode cX12_init 347 = .ok (.aload_n 0, 1) := by decide +kernel
theorem dX12_init_348 : decode cX12_init 348 = .ok (.bipush 20, 2) := by decide +kernel
theorem dX12_init_350 : decode cX12_init 350 = .ok (.newarray .int, 2) := by decide +kernel
theorem dX12_init_352 : decode cX12_init 352 = .ok (.putfield 141, 3) := by decide +kernel
theorem dX12_init_355 : decode cX12_init 355 = .ok (.aload_n 0, 1) := by decide +kernel
theorem dX12_init_356 : decode cX12_init 356 = .ok (.bipush 32, 2) := by decide +kernel
theorem dX12_init_358 : decode cX12_init 358 = .ok (.newarray .int, 2) := by decide +kernel
theorem dX12_init_360 : decode cX12_init 360 = .ok (.putfield 144, 3) := by decide +kernel
theorem dX12_init_363 : decode cX12_init 363 = .ok (.aload_n 0, 1) := by decide +kernel
theorem dX12_init_364 : decode cX12_init 364 = .ok (.sipush 1280, 3) := by decide +kernel
theorem dX12_init_367 : decode cX12_init 367 = .ok (.newarray .int, 2) := by decide +kernel
theorem dX12_init_369 : decode cX12_init 369 = .ok (.putfield 147, 3) := by decide +kernel
theorem dX12_init_372 : decode cX12_init 372 = .ok (.aload_n 0, 1) := by decide +kernel
theorem dX12_init_373 : decode cX12_init 373 = .ok (.bipush 8, 2) := by decide +kernel
theorem dX12_init_375 : decode cX12_init 375 = .ok (.newarray .int, 2) := by decide +kernel
theorem dX12_init_377 : decode cX12_init 377 = .ok (.putfield 150, 3) := by decide +kernel
theorem dX12_init_380 : decode cX12_init 380 = .ok (.aload_n 0, 1) := by decide +kernel
theorem dX12_init_381 : decode cX12_init 381 = .ok (.bipush 8, 2) := by decide +kernel
theorem dX12_init_383 : decode cX12_init 383 = .ok (.newarray .int, 2) := by decide +kernel
theorem dX12_init_385 : decode cX12_init 385 = .ok (.putfield 153, 3) := by decide +kernel
theorem dX12_init_388 : decode cX12_init 388 = .ok (.aload_n 0, 1) := by decide +kernel
theorem dX12_init_389 : decode cX12_init 389 = .ok (.iconst 3, 1) := by decide +kernel
theorem dX12_init_390 : decode cX12_init 390 = .ok (.newarray .int, 2) := by decide +kernel
theorem dX12_init_392 : decode cX12_init 392 = .ok (.putfield 156, 3) := by decide +kernel
theorem dX12_init_395 : decode cX12_init 395 = .ok (.return_, 1) := by decide +kernel
theorem dX1_init_0 : decode cX1_init 0 = .ok (.aload_n 0, 1) := by decide +kernel
theorem dX1_init_1 : decode cX1_init 1 = .ok (.invokespecial 3, 3) := by decide +kernel
theorem dX1_init_4 : decode cX1_init 4 = .ok (.aload_n 0, 1) := by decide +kernel
theorem dX1_init_5 : decode cX1_init 5 = .ok (.bipush 60, 2) := by decide +kernel
theorem dX1_init_7 : decode cX1_init 7 = .ok (.newarray .int, 2) := by decide +kernel
theorem dX1_init_9 : decode cX1_init 9 = .ok (.putfield 9, 3) := by decide +kernel
theorem dX1_init_12 : decode cX1_init 12 = .ok (.aload_n 0, 1) := by decide +kernel
theorem dX1_init_13 : decode cX1_init 13 = .ok (.bipush 60, 2) := by decide +kernel
theorem dX1_init_15 : decode cX1_init 15 = .ok (.newarray .boolean, 2) := by decide +kernel
theorem dX1_init_17 : decode cX1_init 17 = .ok (.putfield 15, 3) := by decide +kernel
theorem dX1_init_20 : decode cX1_init 20 = .ok (.aload_n 0, 1) := by decide +kernel
theorem dX1_init_21 : decode cX1_init 21 = .ok (.aload_n 1, 1) := by decide +kernel
theorem dX1_init_22 : decode cX1_init 22 = .ok (.putfield 19, 3) := by decide +kernel
theorem dX1_init_25 : decode cX1_init 25 = .ok (.return_, 1) := by decide +kernel
theorem dX2_init_0 : decode cX2_init 0 = .ok (.aload_n 0, 1) := by decide +kernel
theorem dX2_init_1 : decode cX2_init 1 = .ok (.invokespecial 3, 3) := by decide +kernel
theorem dX2_init_4 : decode cX2_init 4 = .ok (.aload_n 0, 1) := by decide +kernel
theorem dX2_init_5 : decode cX2_init 5 = .ok (.bipush 6, 2) := by decide +kernel
theorem dX2_init_7 : decode cX2_init 7 = .ok (.newarray .int, 2) := by decide +kernel
theorem dX2_init_9 : decode cX2_init 9 = .ok (.putfield 9, 3) := by decide +kernel
theorem dX2_init_12 : decode cX2_init 12 = .ok (.aload_n 0, 1) := by decide +kernel
theorem dX2_init_13 : decode cX2_init 13 = .ok (.bipush 6, 2) := by decide +kernel
theorem dX2_init_15 : decode cX2_init 15 = .ok (.newarray .int, 2) := by decide +kernel
theorem dX2_init_17 : decode cX2_init 17 = .ok (.putfield 15, 3) := by decide +kernel
theorem dX2_init_20 : decode cX2_init 20 = .ok (.return_, 1) := by decide +kernel
theorem dX3_init_0 : decode cX3_init 0 = .ok (.aload_n 0, 1) := by decide +kernel
theorem dX3_init_1 : decode cX3_init 1 = .ok (.invokespecial 3, 3) := by decide +kernel
theorem dX3_init_4 : decode cX3_init 4 = .ok (.aload_n 0, 1) := by decide +kernel
theorem dX3_init_5 : decode cX3_init 5 = .ok (.bipush 60, 2) := by decide +kernel
theorem dX3_init_7 : decode cX3_init 7 = .ok (.newarray .int, 2) := by decide +kernel
theorem dX3_init_9 : decode cX3_init 9 = .ok (.putfield 9, 3) := by decide +kernel
theorem dX3_init_12 : decode cX3_init 12 = .ok (.aload_n 0, 1) := by decide +kernel
theorem dX3_init_13 : decode cX3_init 13 = .ok (.bipush 100, 2) := by decide +kernel
theorem dX3_init_15 : decode cX3_init 15 = .ok (.newarray .int, 2) := by decide +kernel
theorem dX3_init_17 : decode cX3_init 17 = .ok (.putfield 15, 3) := by decide +kernel
theorem dX3_init_20 : decode cX3_init 20 = .ok (.aload_n 0, 1) := by decide +kernel
theorem dX3_init_21 : decode cX3_init 21 = .ok (.aload_n 1, 1) := by decide +kernel
theorem dX3_init_22 : decode cX3_init 22 = .ok (.putfield 18, 3) := by decide +kernel
theorem dX3_init_25 : decode cX3_init 25 = .ok (.aload_n 0, 1) := by decide +kernel
theorem dX3_init_26 : decode cX3_init 26 = .ok (.aload_n 2, 1) := by decide +kernel
theorem dX3_init_27 : decode cX3_init 27 = .ok (.putfield 22, 3) := by decide +kernel
theorem dX3_init_30 : decode cX3_init 30 = .ok (.aload_n 0, 1) := by decide +kernel
theorem dX3_init_31 : decode cX3_init 31 = .ok (.aload_n 2, 1) := by decide +kernel
theorem dX3_init_32 : decode cX3_init 32 = .ok (.getfield 26, 3) := by decide +kernel
theorem dX3_init_35 : decode cX3_init 35 = .ok (.putfield 32, 3) := by decide +kernel
theorem dX3_init_38 : decode cX3_init 38 = .ok (.return_, 1) := by decide +kernel
theorem dX4_init_0 : decode cX4_init 0 = .ok (.aload_n 0, 1) := by decide +kernel
theorem dX4_init_1 : decode cX4_init 1 = .ok (.invokespecial 3, 3) := by decide +kernel
theorem dX4_init_4 : decode cX4_init 4 = .ok (.aload_n 0, 1) := by decide +kernel
theorem dX4_init_5 : decode cX4_init 5 = .ok (.sipush 600, 3) := by decide +kernel
theorem dX4_init_8 : decode cX4_init 8 = .ok (.newarray .int, 2) := by decide +kernel
theorem dX4_init_10 : decode cX4_init 10 = .ok (.putfield 9, 3) := by decide +kernel
theorem dX4_init_13 : decode cX4_init 13 = .ok (.aload_n 0, 1) := by decide +kernel
theorem dX4_init_14 : decode cX4_init 14 = .ok (.bipush 64, 2) := by decide +kernel
theorem dX4_init_16 : decode cX4_init 16 = .ok (.newarray .int, 2) := by decide +kernel
theorem dX4_init_18 : decode cX4_init 18 = .ok (.putfield 15, 3) := by decide +kernel
theorem dX4_init_21 : decode cX4_init 21 = .ok (.aload_n 0, 1) := by decide +kernel
theorem dX4_init_22 : decode cX4_init 22 = .ok (.bipush 100, 2) := by decide +kernel
theorem dX4_init_24 : decode cX4_init 24 = .ok (.newarray .int, 2) := by decide +kernel
theorem dX4_init_26 : decode cX4_init 26 = .ok (.putfield 18, 3) := by decide +kernel
theorem dX4_init_29 : decode cX4_init 29 = .ok (.aload_n 0, 1) := by decide +kernel
theorem dX4_init_30 : decode cX4_init 30 = .ok (.aload_n 1, 1) := by decide +kernel
theorem dX4_init_31 : decode cX4_init 31 = .ok (.putfield 21, 3) := by decide +kernel
theorem dX4_init_34 : decode cX4_init 34 = .ok (.return_, 1) := by decide +kernel
theorem dX5_init_0 : decode cX5_init 0 = .ok (.aload_n 0, 1) := by decide +kernel
theorem dX5_init_1 : decode cX5_init 1 = .ok (.invokespecial 3, 3) := by decide +kernel
theorem dX5_init_4 : decode cX5_init 4 = .ok (.aload_n 0, 1) := by decide +kernel
theorem dX5_init_5 : decode cX5_init 5 = .ok (.bipush 10, 2) := by decide +kernel
theorem dX5_init_7 : decode cX5_init 7 = .ok (.newarray .int, 2) := by decide +kernel
theorem dX5_init_9 : decode cX5_init 9 = .ok (.putfield 9, 3) := by decide +kernel
theorem dX5_init_12 : decode cX5_init 12 = .ok (.aload_n 0, 1) := by decide +kernel
theorem dX5_init_13 : decode cX5_init 13 = .ok (.bipush 10, 2) := by decide +kernel
theorem dX5_init_15 : decode cX5_init 15 = .ok (.newarray .int, 2) := by decide +kernel
theorem dX5_init_17 : decode cX5_init 17 = .ok (.putfield 15, 3) := by decide +kernel
theorem dX5_init_20 : decode cX5_init 20 = .ok (.aload_n 0, 1) := by decide +kernel
theorem dX5_init_21 : decode cX5_init 21 = .ok (.aload_n 1, 1) := by decide +kernel
theorem dX5_init_22 : decode cX5_init 22 = .ok (.putfield 18, 3) := by decide +kernel
theorem dX5_init_25 : decode cX5_init 25 = .ok (.aload_n 0, 1) := by decide +kernel
theorem dX5_init_26 : decode cX5_init 26 = .ok (.aload_n 2, 1) := by decide +kernel
theorem dX5_init_27 : decode cX5_init 27 = .ok (.putfield 22, 3) := by decide +kernel
theorem dX5_init_30 : decode cX5_init 30 = .ok (.aload_n 0, 1) := by decide +kernel
theorem dX5_init_31 : decode cX5_init 31 = .ok (.aload_n 1, 1) := by decide +kernel
theorem dX5_init_32 : decode cX5_init 32 = .ok (.getfield 26, 3) := by decide +kernel
theorem dX5_init_35 : decode cX5_init 35 = .ok (.putfield 32, 3) := by decide +kernel
theorem dX5_init_38 : decode cX5_init 38 = .ok (.return_, 1) := by decide +kernel
theorem dX7_init_0 : decode cX7_init 0 = .ok (.aload_n 0, 1) := by decide +kernel
theorem dX7_init_1 : decode cX7_init 1 = .ok (.invokespecial 3, 3) := by decide +kernel
theorem dX7_init_4 : decode cX7_init 4 = .ok (.aload_n 0, 1) := by decide +kernel
theorem dX7_init_5 : decode cX7_init 5 = .ok (.bipush 12, 2) := by decide +kernel
theorem dX7_init_7 : decode cX7_init 7 = .ok (.newarray .int, 2) := by decide +kernel
theorem dX7_init_9 : decode cX7_init 9 = .ok (.putfield 9, 3) := by decide +kernel
theorem dX7_init_12 : decode cX7_init 12 = .ok (.aload_n 0, 1) := by decide +kernel
theorem dX7_init_13 : decode cX7_init 13 = .ok (.bipush 12, 2) := by decide +kernel
theorem dX7_init_15 : decode cX7_init 15 = .ok (.newarray .int, 2) := by decide +kernel
theorem dX7_init_17 : decode cX7_init 17 = .ok (.putfield 15, 3) := by decide +kernel
theorem dX7_init_20 : decode cX7_init 20 = .ok (.aload_n 0, 1) := by decide +kernel
theorem dX7_init_21 : decode cX7_init 21 = .ok (.bipush 13, 2) := by decide +kernel
theorem dX7_init_23 : decode cX7_init 23 = .ok (.newarray .int, 2) := by decide +kernel
theorem dX7_init_25 : decode cX7_init 25 = .ok (.putfield 18, 3) := by decide +kernel
theorem dX7_init_28 : decode cX7_init 28 = .ok (.aload_n 0, 1) := by decide +kernel
theorem dX7_init_29 : decode cX7_init 29 = .ok (.aload_n 1, 1) := by decide +kernel
theorem dX7_init_30 : decode cX7_init 30 = .ok (.putfield 21, 3) := by decide +kernel
theorem dX7_init_33 : decode cX7_init 33 = .ok (.return_, 1) := by decide +kernel
theorem dX8_init_0 : decode cX8_init 0 = .ok (.aload_n 0, 1) := by decide +kernel
theorem dX8_init_1 : decode cX8_init 1 = .ok (.invokespecial 3, 3) := by decide +kernel
theorem dX8_init_4 : decode cX8_init 4 = .ok (.aload_n 0, 1) := by decide +kernel
theorem dX8_init_5 : decode cX8_init 5 = .ok (.sipush 130, 3) := by decide +kernel
theorem dX8_init_8 : decode cX8_init 8 = .ok (.newarray .long, 2) := by decide +kernel
theorem dX8_init_10 : decode cX8_init 10 = .ok (.putfield 9, 3) := by decide +kernel
theorem dX8_init_13 : decode cX8_init 13 = .ok (.aload_n 0, 1) := by decide +kernel
theorem dX8_init_14 : decode cX8_init 14 = .ok (.sipush 130, 3) := by decide +kernel
theorem dX8_init_17 : decode cX8_init 17 = .ok (.newarray .int, 2) := by decide +kernel
theorem dX8_init_19 : decode cX8_init 19 = .ok (.putfield 15, 3) := by decide +kernel
theorem dX8_init_22 : decode cX8_init 22 = .ok (.aload_n 0, 1) := by decide +kernel
theorem dX8_init_23 : decode cX8_init 23 = .ok (.bipush 12, 2) := by decide +kernel
theorem dX8_init_25 : decode cX8_init 25 = .ok (.newarray .int, 2) := by decide +kernel
theorem dX8_init_27 : decode cX8_init 27 = .ok (.putfield 19, 3) := by decide +kernel
theorem dX8_init_30 : decode cX8_init 30 = .ok (.aload_n 0, 1) := by decide +kernel
theorem dX8_init_31 : decode cX8_init 31 = .ok (.bipush 70, 2) := by decide +kernel
theorem dX8_init_33 : decode cX8_init 33 = .ok (.newarray .int, 2) := by decide +kernel
theorem dX8_init_35 : decode cX8_init 35 = .ok (.putfield 22, 3) := by decide +kernel
theorem dX8_init_38 : decode cX8_init 38 = .ok (.aload_n 0, 1) := by decide +kernel
theorem dX8_init_39 : decode cX8_init 39 = .ok (.aload_n 1, 1) := by decide +kernel
theorem dX8_init_40 : decode cX8_init 40 = .ok (.putfield 25, 3) := by decide +kernel
theorem dX8_init_43 : decode cX8_init 43 = .ok (.aload_n 0, 1) := by decide +kernel
theorem dX8_init_44 : decode cX8_init 44 = .ok (.aload_n 2, 1) := by decide +kernel
theorem dX8_init_45 : decode cX8_init 45 = .ok (.putfield 29, 3) := by decide +kernel
theorem dX8_init_48 : decode cX8_init 48 = .ok (.return_, 1) := by decide +kernel
theorem dX9_init_0 : decode cX9_init 0 = .ok (.aload_n 0, 1) := by decide +kernel
theorem dX9_init_1 : decode cX9_init 1 = .ok (.invokespecial 3, 3) := by decide +kernel
theorem dX9_init_4 : decode cX9_init 4 = .ok (.aload_n 0, 1) := by decide +kernel
theorem dX9_init_5 : decode cX9_init 5 = .ok (.new 9, 3) := by decide +kernel
theorem dX9_init_8 : decode cX9_init 8 = .ok (.dup, 1) := by decide +kernel
theorem dX9_init_9 : decode cX9_init 9 = .ok (.invokespecial 11, 3) := by decide +kernel
theorem dX9_init_12 : decode cX9_init 12 = .ok (.putfield 12, 3) := by decide +kernel
theorem dX9_init_15 : decode cX9_init 15 = .ok (.aload_n 0, 1) := by decide +kernel
theorem dX9_init_16 : decode cX9_init 16 = .ok (.sipush 200, 3) := by decide +kernel
theorem dX9_init_19 : decode cX9_init 19 = .ok (.newarray .int, 2) := by decide +kernel
theorem dX9_init_21 : decode cX9_init 21 = .ok (.putfield 18, 3) := by decide +kernel
theorem dX9_init_24 : decode cX9_init 24 = .ok (.aload_n 0, 1) := by decide +kernel
theorem dX9_init_25 : decode cX9_init 25 = .ok (.bipush 8, 2) := by decide +kernel
theorem dX9_init_27 : decode cX9_init 27 = .ok (.newarray .int, 2) := by decide +kernel
theorem dX9_init_29 : decode cX9_init 29 = .ok (.putfield 22, 3) := by decide +kernel
theorem dX9_init_32 : decode cX9_init 32 = .ok (.aload_n 0, 1) := by decide +kernel
theorem dX9_init_33 : decode cX9_init 33 = .ok (.bipush 8, 2) := by decide +kernel
theorem dX9_init_35 : decode cX9_init 35 = .ok (.newarray .int, 2) := by decide +kernel
theorem dX9_init_37 : decode cX9_init 37 = .ok (.putfield 25, 3) := by decide +kernel
theorem dX9_init_40 : decode cX9_init 40 = .ok (.aload_n 0, 1) := by decide +kernel
theorem dX9_init_41 : decode cX9_init 41 = .ok (.iconst 3, 1) := by decide +kernel
theorem dX9_init_42 : decode cX9_init 42 = .ok (.newarray .int, 2) := by decide +kernel
theorem dX9_init_44 : decode cX9_init 44 = .ok (.putfield 28, 3) := by decide +kernel
theorem dX9_init_47 : decode cX9_init 47 = .ok (.return_, 1) := by decide +kernel
