/-! THE BEGINNING: the world that the constructors leave; the loop; the law -/
def kbM0 : kbM := (fun a k => if a = 57 then (if k = 22 then -1 else 0) else if a = 1 then (if k = 11 then -1 else 0) else 0, fun _ _ => 0)
theorem ce_0 (E : kbE) : kbPCell E (kw_219.2 0) = kbCell E (kbM0.1 0) (kbM0.2 0) (.inr (10, [some 1, some 12, some 22, some 32, some 35, some 39, some 43, some 48, some 51, some 54, none])) := rfl
theorem ce_1 (E : kbE) : kbPCell E (kw_219.2 1) = kbCell E (kbM0.1 1) (kbM0.2 1) (.inr (0, [some 2, some 3, some 8, some 11, none, none, none, none, none, none, none, none])) := rfl
theorem ce_2 (E : kbE) : kbPCell E (kw_219.2 2) = kbCell E (kbM0.1 2) (kbM0.2 2) (.inl (0, 150, [])) := rfl
theorem ce_3 (E : kbE) : kbPCell E (kw_219.2 3) = kbCell E (kbM0.1 3) (kbM0.2 3) (.inr (9, [some 4, some 5, some 6, some 7, none])) := rfl
theorem ce_4 (E : kbE) : kbPCell E (kw_219.2 4) = kbCell E (kbM0.1 4) (kbM0.2 4) (.inl (0, 10, [])) := rfl
theorem ce_5 (E : kbE) : kbPCell E (kw_219.2 5) = kbCell E (kbM0.1 5) (kbM0.2 5) (.inl (0, 10, [])) := rfl
theorem ce_6 (E : kbE) : kbPCell E (kw_219.2 6) = kbCell E (kbM0.1 6) (kbM0.2 6) (.inl (0, 10, [])) := rfl
theorem ce_7 (E : kbE) : kbPCell E (kw_219.2 7) = kbCell E (kbM0.1 7) (kbM0.2 7) (.inl (0, 10, [])) := rfl
theorem ce_8 (E : kbE) : kbPCell E (kw_219.2 8) = kbCell E (kbM0.1 8) (kbM0.2 8) (.inr (2, [some 9, some 10, none])) := rfl
theorem ce_9 (E : kbE) : kbPCell E (kw_219.2 9) = kbCell E (kbM0.1 9) (kbM0.2 9) (.inl (0, 6, [])) := rfl
theorem ce_10 (E : kbE) : kbPCell E (kw_219.2 10) = kbCell E (kbM0.1 10) (kbM0.2 10) (.inl (0, 6, [])) := rfl
theorem ce_11 (E : kbE) : kbPCell E (kw_219.2 11) = kbCell E (kbM0.1 11) (kbM0.2 11) (.inl (0, 600, [])) := rfl
theorem ce_12 (E : kbE) : kbPCell E (kw_219.2 12) = kbCell E (kbM0.1 12) (kbM0.2 12) (.inr (8, [some 13, some 18, some 19, some 20, some 21, none, none, none])) := rfl
theorem ce_13 (E : kbE) : kbPCell E (kw_219.2 13) = kbCell E (kbM0.1 13) (kbM0.2 13) (.inr (9, [some 14, some 15, some 16, some 17, none])) := rfl
theorem ce_14 (E : kbE) : kbPCell E (kw_219.2 14) = kbCell E (kbM0.1 14) (kbM0.2 14) (.inl (0, 10, [])) := rfl
theorem ce_15 (E : kbE) : kbPCell E (kw_219.2 15) = kbCell E (kbM0.1 15) (kbM0.2 15) (.inl (0, 10, [])) := rfl
theorem ce_16 (E : kbE) : kbPCell E (kw_219.2 16) = kbCell E (kbM0.1 16) (kbM0.2 16) (.inl (0, 10, [])) := rfl
theorem ce_17 (E : kbE) : kbPCell E (kw_219.2 17) = kbCell E (kbM0.1 17) (kbM0.2 17) (.inl (0, 10, [])) := rfl
theorem ce_18 (E : kbE) : kbPCell E (kw_219.2 18) = kbCell E (kbM0.1 18) (kbM0.2 18) (.inl (0, 200, [])) := rfl
theorem ce_19 (E : kbE) : kbPCell E (kw_219.2 19) = kbCell E (kbM0.1 19) (kbM0.2 19) (.inl (0, 8, [])) := rfl
theorem ce_20 (E : kbE) : kbPCell E (kw_219.2 20) = kbCell E (kbM0.1 20) (kbM0.2 20) (.inl (0, 8, [])) := rfl
theorem ce_21 (E : kbE) : kbPCell E (kw_219.2 21) = kbCell E (kbM0.1 21) (kbM0.2 21) (.inl (0, 3, [])) := rfl
theorem ce_22 (E : kbE) : kbPCell E (kw_219.2 22) = kbCell E (kbM0.1 22) (kbM0.2 22) (.inr (8, [some 23, some 28, some 29, some 30, some 31, none, none, none])) := rfl
theorem ce_23 (E : kbE) : kbPCell E (kw_219.2 23) = kbCell E (kbM0.1 23) (kbM0.2 23) (.inr (9, [some 24, some 25, some 26, some 27, none])) := rfl
theorem ce_24 (E : kbE) : kbPCell E (kw_219.2 24) = kbCell E (kbM0.1 24) (kbM0.2 24) (.inl (0, 10, [])) := rfl
theorem ce_25 (E : kbE) : kbPCell E (kw_219.2 25) = kbCell E (kbM0.1 25) (kbM0.2 25) (.inl (0, 10, [])) := rfl
theorem ce_26 (E : kbE) : kbPCell E (kw_219.2 26) = kbCell E (kbM0.1 26) (kbM0.2 26) (.inl (0, 10, [])) := rfl
theorem ce_27 (E : kbE) : kbPCell E (kw_219.2 27) = kbCell E (kbM0.1 27) (kbM0.2 27) (.inl (0, 10, [])) := rfl
theorem ce_28 (E : kbE) : kbPCell E (kw_219.2 28) = kbCell E (kbM0.1 28) (kbM0.2 28) (.inl (0, 200, [])) := rfl
theorem ce_29 (E : kbE) : kbPCell E (kw_219.2 29) = kbCell E (kbM0.1 29) (kbM0.2 29) (.inl (0, 8, [])) := rfl
theorem ce_30 (E : kbE) : kbPCell E (kw_219.2 30) = kbCell E (kbM0.1 30) (kbM0.2 30) (.inl (0, 8, [])) := rfl
theorem ce_31 (E : kbE) : kbPCell E (kw_219.2 31) = kbCell E (kbM0.1 31) (kbM0.2 31) (.inl (0, 3, [])) := rfl
theorem ce_32 (E : kbE) : kbPCell E (kw_219.2 32) = kbCell E (kbM0.1 32) (kbM0.2 32) (.inr (2, [some 33, some 34, none])) := rfl
theorem ce_33 (E : kbE) : kbPCell E (kw_219.2 33) = kbCell E (kbM0.1 33) (kbM0.2 33) (.inl (0, 6, [])) := rfl
theorem ce_34 (E : kbE) : kbPCell E (kw_219.2 34) = kbCell E (kbM0.1 34) (kbM0.2 34) (.inl (0, 6, [])) := rfl
theorem ce_35 (E : kbE) : kbPCell E (kw_219.2 35) = kbCell E (kbM0.1 35) (kbM0.2 35) (.inr (4, [some 13, some 36, some 37, some 38, none])) := rfl
theorem ce_36 (E : kbE) : kbPCell E (kw_219.2 36) = kbCell E (kbM0.1 36) (kbM0.2 36) (.inl (0, 600, [])) := rfl
theorem ce_37 (E : kbE) : kbPCell E (kw_219.2 37) = kbCell E (kbM0.1 37) (kbM0.2 37) (.inl (0, 64, [])) := rfl
theorem ce_38 (E : kbE) : kbPCell E (kw_219.2 38) = kbCell E (kbM0.1 38) (kbM0.2 38) (.inl (0, 100, [])) := rfl
theorem ce_39 (E : kbE) : kbPCell E (kw_219.2 39) = kbCell E (kbM0.1 39) (kbM0.2 39) (.inr (6, [some 13, some 40, some 41, some 42])) := rfl
theorem ce_40 (E : kbE) : kbPCell E (kw_219.2 40) = kbCell E (kbM0.1 40) (kbM0.2 40) (.inl (0, 12, [])) := rfl
theorem ce_41 (E : kbE) : kbPCell E (kw_219.2 41) = kbCell E (kbM0.1 41) (kbM0.2 41) (.inl (0, 12, [])) := rfl
theorem ce_42 (E : kbE) : kbPCell E (kw_219.2 42) = kbCell E (kbM0.1 42) (kbM0.2 42) (.inl (0, 13, [])) := rfl
theorem ce_43 (E : kbE) : kbPCell E (kw_219.2 43) = kbCell E (kbM0.1 43) (kbM0.2 43) (.inr (7, [some 13, some 35, some 44, some 45, some 46, some 47])) := rfl
theorem ce_44 (E : kbE) : kbPCell E (kw_219.2 44) = kbCell E (kbM0.1 44) (kbM0.2 44) (.inl (1, 130, [])) := rfl
theorem ce_45 (E : kbE) : kbPCell E (kw_219.2 45) = kbCell E (kbM0.1 45) (kbM0.2 45) (.inl (0, 130, [])) := rfl
theorem ce_46 (E : kbE) : kbPCell E (kw_219.2 46) = kbCell E (kbM0.1 46) (kbM0.2 46) (.inl (0, 12, [])) := rfl
theorem ce_47 (E : kbE) : kbPCell E (kw_219.2 47) = kbCell E (kbM0.1 47) (kbM0.2 47) (.inl (0, 70, [])) := rfl
theorem ce_48 (E : kbE) : kbPCell E (kw_219.2 48) = kbCell E (kbM0.1 48) (kbM0.2 48) (.inr (1, [some 13, some 49, some 50])) := rfl
theorem ce_49 (E : kbE) : kbPCell E (kw_219.2 49) = kbCell E (kbM0.1 49) (kbM0.2 49) (.inl (0, 60, [])) := rfl
theorem ce_50 (E : kbE) : kbPCell E (kw_219.2 50) = kbCell E (kbM0.1 50) (kbM0.2 50) (.inl (2, 60, [])) := rfl
theorem ce_51 (E : kbE) : kbPCell E (kw_219.2 51) = kbCell E (kbM0.1 51) (kbM0.2 51) (.inr (3, [some 32, some 12, some 13, some 52, some 53])) := rfl
theorem ce_52 (E : kbE) : kbPCell E (kw_219.2 52) = kbCell E (kbM0.1 52) (kbM0.2 52) (.inl (0, 60, [])) := rfl
theorem ce_53 (E : kbE) : kbPCell E (kw_219.2 53) = kbCell E (kbM0.1 53) (kbM0.2 53) (.inl (0, 100, [])) := rfl
theorem ce_54 (E : kbE) : kbPCell E (kw_219.2 54) = kbCell E (kbM0.1 54) (kbM0.2 54) (.inr (5, [some 51, some 39, some 13, some 55, some 56, none, none, none, none, none, none])) := rfl
theorem ce_55 (E : kbE) : kbPCell E (kw_219.2 55) = kbCell E (kbM0.1 55) (kbM0.2 55) (.inl (0, 10, [])) := rfl
theorem ce_56 (E : kbE) : kbPCell E (kw_219.2 56) = kbCell E (kbM0.1 56) (kbM0.2 56) (.inl (0, 10, [])) := rfl
theorem ce_57 (E : kbE) : kbPCell E (kw_219.2 57) = kbCell E (kbM0.1 57) (kbM0.2 57) (.inr (11, [some 58, some 59, some 60, none, some 61, some 62, some 63, some 64, some 65, some 66, some 67, some 68, some 69, none, none, none, none, none, none, none, none, none, none, some 70, some 71, some 72, some 73, none, none, none, none, some 74, some 75, some 76, some 77, some 78, some 79, some 80, none, some 81, some 82, some 83, some 84, some 85, some 86, none, some 87, some 88, some 89, some 90, some 91, none, none, none, none, some 92, some 93, some 94, some 95, some 96])) := by
  have h : kw_219.2 57 = .inr (11, [.ref 58, .ref 59, .ref 60, .int 0, .ref 61, .ref 62, .ref 63, .ref 64, .ref 65, .ref 66, .ref 67, .ref 68, .ref 69, .int 0, .int 0, .int 0, .int 0, .int 0, .int 0, .int 0, .int 0, .int 0, .int (-1), .ref 70, .ref 71, .ref 72, .ref 73, .int 0, .int 0, .int 0, .int 0, .ref 74, .ref 75, .ref 76, .ref 77, .ref 78, .ref 79, .ref 80, .int 0, .ref 81, .ref 82, .ref 83, .ref 84, .ref 85, .ref 86, .int 0, .ref 87, .ref 88, .ref 89, .ref 90, .ref 91, .int 0, .int 0, .int 0, .int 0, .ref 92, .ref 93, .ref 94, .ref 95, .ref 96]) := rfl
  rw [h]
  have key : ([.ref 58, .ref 59, .ref 60, .int 0, .ref 61, .ref 62, .ref 63, .ref 64, .ref 65, .ref 66, .ref 67, .ref 68, .ref 69, .int 0, .int 0, .int 0, .int 0, .int 0, .int 0, .int 0, .int 0, .int 0, .int (-1), .ref 70, .ref 71, .ref 72, .ref 73, .int 0, .int 0, .int 0, .int 0, .ref 74, .ref 75, .ref 76, .ref 77, .ref 78, .ref 79, .ref 80, .int 0, .ref 81, .ref 82, .ref 83, .ref 84, .ref 85, .ref 86, .int 0, .ref 87, .ref 88, .ref 89, .ref 90, .ref 91, .int 0, .int 0, .int 0, .int 0, .ref 92, .ref 93, .ref 94, .ref 95, .ref 96] : List Value).map (kbV E) = ([some 58, some 59, some 60, none, some 61, some 62, some 63, some 64, some 65, some 66, some 67, some 68, some 69, none, none, none, none, none, none, none, none, none, none, some 70, some 71, some 72, some 73, none, none, none, none, some 74, some 75, some 76, some 77, some 78, some 79, some 80, none, some 81, some 82, some 83, some 84, some 85, some 86, none, some 87, some 88, some 89, some 90, some 91, none, none, none, none, some 92, some 93, some 94, some 95, some 96] : List (Option Nat)).mapIdx (kbFd E (kbM0.1 57)) := by
    apply List.ext_getElem?
    intro k
    rw [List.getElem?_map, List.getElem?_mapIdx]
    match k with
    | 0 => rfl
    | 1 => rfl
    | 2 => rfl
    | 3 => rfl
    | 4 => rfl
    | 5 => rfl
    | 6 => rfl
    | 7 => rfl
    | 8 => rfl
    | 9 => rfl
    | 10 => rfl
    | 11 => rfl
    | 12 => rfl
    | 13 => rfl
    | 14 => rfl
    | 15 => rfl
    | 16 => rfl
    | 17 => rfl
    | 18 => rfl
    | 19 => rfl
    | 20 => rfl
    | 21 => rfl
    | 22 => rfl
    | 23 => rfl
    | 24 => rfl
    | 25 => rfl
    | 26 => rfl
    | 27 => rfl
    | 28 => rfl
    | 29 => rfl
    | 30 => rfl
    | 31 => rfl
    | 32 => rfl
    | 33 => rfl
    | 34 => rfl
    | 35 => rfl
    | 36 => rfl
    | 37 => rfl
    | 38 => rfl
    | 39 => rfl
    | 40 => rfl
    | 41 => rfl
    | 42 => rfl
    | 43 => rfl
    | 44 => rfl
    | 45 => rfl
    | 46 => rfl
    | 47 => rfl
    | 48 => rfl
    | 49 => rfl
    | 50 => rfl
    | 51 => rfl
    | 52 => rfl
    | 53 => rfl
    | 54 => rfl
    | 55 => rfl
    | 56 => rfl
    | 57 => rfl
    | 58 => rfl
    | 59 => rfl
    | k + 60 => rfl
  show (Sum.inr (11, ([.ref 58, .ref 59, .ref 60, .int 0, .ref 61, .ref 62, .ref 63, .ref 64, .ref 65, .ref 66, .ref 67, .ref 68, .ref 69, .int 0, .int 0, .int 0, .int 0, .int 0, .int 0, .int 0, .int 0, .int 0, .int (-1), .ref 70, .ref 71, .ref 72, .ref 73, .int 0, .int 0, .int 0, .int 0, .ref 74, .ref 75, .ref 76, .ref 77, .ref 78, .ref 79, .ref 80, .int 0, .ref 81, .ref 82, .ref 83, .ref 84, .ref 85, .ref 86, .int 0, .ref 87, .ref 88, .ref 89, .ref 90, .ref 91, .int 0, .int 0, .int 0, .int 0, .ref 92, .ref 93, .ref 94, .ref 95, .ref 96] : List Value).map (kbV E)) : va_E) = .inr (11, ([some 58, some 59, some 60, none, some 61, some 62, some 63, some 64, some 65, some 66, some 67, some 68, some 69, none, none, none, none, none, none, none, none, none, none, some 70, some 71, some 72, some 73, none, none, none, none, some 74, some 75, some 76, some 77, some 78, some 79, some 80, none, some 81, some 82, some 83, some 84, some 85, some 86, none, some 87, some 88, some 89, some 90, some 91, none, none, none, none, some 92, some 93, some 94, some 95, some 96] : List (Option Nat)).mapIdx (kbFd E (kbM0.1 57)))
  rw [key]
theorem ce_58 (E : kbE) : kbPCell E (kw_219.2 58) = kbCell E (kbM0.1 58) (kbM0.2 58) (.inl (3, 3, [1000, 1001, 1002])) := by
  have h : kbPCell E (kw_219.2 58) = .inl (E.2.2 3, (3, .inr (.inr (.inr (.inr (fun k => (if k = 2 then some 1002 else if k = 1 then some 1001 else if k = 0 then some 1000 else none : Option Nat).map E.1)))))) := rfl
  rw [h]
  show _ = (Sum.inl (E.2.2 3, (3, .inr (.inr (.inr (.inr (fun k => (([1000, 1001, 1002] : List Nat)[k]?).map E.1)))))) : va_E)
  congr 7
  funext k
  match k with
  | 0 => rfl
  | 1 => rfl
  | 2 => rfl
  | k + 3 => simp
theorem ce_59 (E : kbE) : kbPCell E (kw_219.2 59) = kbCell E (kbM0.1 59) (kbM0.2 59) (.inl (3, 4, [1003, 1004, 1005, 1006])) := by
  have h : kbPCell E (kw_219.2 59) = .inl (E.2.2 3, (4, .inr (.inr (.inr (.inr (fun k => (if k = 3 then some 1006 else if k = 2 then some 1005 else if k = 1 then some 1004 else if k = 0 then some 1003 else none : Option Nat).map E.1)))))) := rfl
  rw [h]
  show _ = (Sum.inl (E.2.2 3, (4, .inr (.inr (.inr (.inr (fun k => (([1003, 1004, 1005, 1006] : List Nat)[k]?).map E.1)))))) : va_E)
  congr 7
  funext k
  match k with
  | 0 => rfl
  | 1 => rfl
  | 2 => rfl
  | 3 => rfl
  | k + 4 => simp
theorem ce_60 (E : kbE) : kbPCell E (kw_219.2 60) = kbCell E (kbM0.1 60) (kbM0.2 60) (.inl (3, 6, [1007, 1008, 1009, 1010, 1011, 1012])) := by
  have h : kbPCell E (kw_219.2 60) = .inl (E.2.2 3, (6, .inr (.inr (.inr (.inr (fun k => (if k = 5 then some 1012 else if k = 4 then some 1011 else if k = 3 then some 1010 else if k = 2 then some 1009 else if k = 1 then some 1008 else if k = 0 then some 1007 else none : Option Nat).map E.1)))))) := rfl
  rw [h]
  show _ = (Sum.inl (E.2.2 3, (6, .inr (.inr (.inr (.inr (fun k => (([1007, 1008, 1009, 1010, 1011, 1012] : List Nat)[k]?).map E.1)))))) : va_E)
  congr 7
  funext k
  match k with
  | 0 => rfl
  | 1 => rfl
  | 2 => rfl
  | 3 => rfl
  | 4 => rfl
  | 5 => rfl
  | k + 6 => simp
theorem ce_61 (E : kbE) : kbPCell E (kw_219.2 61) = kbCell E (kbM0.1 61) (kbM0.2 61) (.inl (0, 6, [])) := rfl
theorem ce_62 (E : kbE) : kbPCell E (kw_219.2 62) = kbCell E (kbM0.1 62) (kbM0.2 62) (.inl (0, 20, [])) := rfl
theorem ce_63 (E : kbE) : kbPCell E (kw_219.2 63) = kbCell E (kbM0.1 63) (kbM0.2 63) (.inl (0, 20, [])) := rfl
theorem ce_64 (E : kbE) : kbPCell E (kw_219.2 64) = kbCell E (kbM0.1 64) (kbM0.2 64) (.inl (0, 20, [])) := rfl
theorem ce_65 (E : kbE) : kbPCell E (kw_219.2 65) = kbCell E (kbM0.1 65) (kbM0.2 65) (.inl (0, 12, [])) := rfl
theorem ce_66 (E : kbE) : kbPCell E (kw_219.2 66) = kbCell E (kbM0.1 66) (kbM0.2 66) (.inl (0, 12, [])) := rfl
theorem ce_67 (E : kbE) : kbPCell E (kw_219.2 67) = kbCell E (kbM0.1 67) (kbM0.2 67) (.inl (0, 1200, [])) := rfl
theorem ce_68 (E : kbE) : kbPCell E (kw_219.2 68) = kbCell E (kbM0.1 68) (kbM0.2 68) (.inl (0, 3, [])) := rfl
theorem ce_69 (E : kbE) : kbPCell E (kw_219.2 69) = kbCell E (kbM0.1 69) (kbM0.2 69) (.inl (0, 600, [])) := rfl
theorem ce_70 (E : kbE) : kbPCell E (kw_219.2 70) = kbCell E (kbM0.1 70) (kbM0.2 70) (.inl (0, 10, [])) := rfl
theorem ce_71 (E : kbE) : kbPCell E (kw_219.2 71) = kbCell E (kbM0.1 71) (kbM0.2 71) (.inl (0, 10, [])) := rfl
theorem ce_72 (E : kbE) : kbPCell E (kw_219.2 72) = kbCell E (kbM0.1 72) (kbM0.2 72) (.inl (0, 10, [])) := rfl
theorem ce_73 (E : kbE) : kbPCell E (kw_219.2 73) = kbCell E (kbM0.1 73) (kbM0.2 73) (.inl (0, 1280, [])) := rfl
theorem ce_74 (E : kbE) : kbPCell E (kw_219.2 74) = kbCell E (kbM0.1 74) (kbM0.2 74) (.inl (0, 6, [])) := rfl
theorem ce_75 (E : kbE) : kbPCell E (kw_219.2 75) = kbCell E (kbM0.1 75) (kbM0.2 75) (.inl (0, 64, [])) := rfl
theorem ce_76 (E : kbE) : kbPCell E (kw_219.2 76) = kbCell E (kbM0.1 76) (kbM0.2 76) (.inl (0, 12, [])) := rfl
theorem ce_77 (E : kbE) : kbPCell E (kw_219.2 77) = kbCell E (kbM0.1 77) (kbM0.2 77) (.inl (0, 143, [])) := rfl
theorem ce_78 (E : kbE) : kbPCell E (kw_219.2 78) = kbCell E (kbM0.1 78) (kbM0.2 78) (.inl (0, 60, [])) := rfl
theorem ce_79 (E : kbE) : kbPCell E (kw_219.2 79) = kbCell E (kbM0.1 79) (kbM0.2 79) (.inl (0, 10, [])) := rfl
theorem ce_80 (E : kbE) : kbPCell E (kw_219.2 80) = kbCell E (kbM0.1 80) (kbM0.2 80) (.inl (1, 143, [])) := rfl
theorem ce_81 (E : kbE) : kbPCell E (kw_219.2 81) = kbCell E (kbM0.1 81) (kbM0.2 81) (.inl (0, 169, [])) := rfl
theorem ce_82 (E : kbE) : kbPCell E (kw_219.2 82) = kbCell E (kbM0.1 82) (kbM0.2 82) (.inl (0, 12, [])) := rfl
theorem ce_83 (E : kbE) : kbPCell E (kw_219.2 83) = kbCell E (kbM0.1 83) (kbM0.2 83) (.inl (0, 12, [])) := rfl
theorem ce_84 (E : kbE) : kbPCell E (kw_219.2 84) = kbCell E (kbM0.1 84) (kbM0.2 84) (.inl (0, 70, [])) := rfl
theorem ce_85 (E : kbE) : kbPCell E (kw_219.2 85) = kbCell E (kbM0.1 85) (kbM0.2 85) (.inl (0, 70, [])) := rfl
theorem ce_86 (E : kbE) : kbPCell E (kw_219.2 86) = kbCell E (kbM0.1 86) (kbM0.2 86) (.inl (0, 3125, [])) := rfl
theorem ce_87 (E : kbE) : kbPCell E (kw_219.2 87) = kbCell E (kbM0.1 87) (kbM0.2 87) (.inl (0, 130, [])) := rfl
theorem ce_88 (E : kbE) : kbPCell E (kw_219.2 88) = kbCell E (kbM0.1 88) (kbM0.2 88) (.inl (1, 130, [])) := rfl
theorem ce_89 (E : kbE) : kbPCell E (kw_219.2 89) = kbCell E (kbM0.1 89) (kbM0.2 89) (.inl (0, 8, [])) := rfl
theorem ce_90 (E : kbE) : kbPCell E (kw_219.2 90) = kbCell E (kbM0.1 90) (kbM0.2 90) (.inl (0, 8, [])) := rfl
theorem ce_91 (E : kbE) : kbPCell E (kw_219.2 91) = kbCell E (kbM0.1 91) (kbM0.2 91) (.inl (0, 20, [])) := rfl
theorem ce_92 (E : kbE) : kbPCell E (kw_219.2 92) = kbCell E (kbM0.1 92) (kbM0.2 92) (.inl (0, 32, [])) := rfl
theorem ce_93 (E : kbE) : kbPCell E (kw_219.2 93) = kbCell E (kbM0.1 93) (kbM0.2 93) (.inl (0, 1280, [])) := rfl
theorem ce_94 (E : kbE) : kbPCell E (kw_219.2 94) = kbCell E (kbM0.1 94) (kbM0.2 94) (.inl (0, 8, [])) := rfl
theorem ce_95 (E : kbE) : kbPCell E (kw_219.2 95) = kbCell E (kbM0.1 95) (kbM0.2 95) (.inl (0, 8, [])) := rfl
theorem ce_96 (E : kbE) : kbPCell E (kw_219.2 96) = kbCell E (kbM0.1 96) (kbM0.2 96) (.inl (0, 3, [])) := rfl
theorem ce_97 (E : kbE) : kbPCell E (kw_219.2 97) = kbCell E (kbM0.1 97) (kbM0.2 97) (.inl (1, 1, [])) := rfl
theorem kw_end (E : kbE) : kbPw E kw_219 = kbWs E kbM0 := by
  have hn : kw_219.1 = 98 := rfl
  apply List.ext_getElem?
  intro i
  by_cases hi : i < 98
  · rw [kbPw_get (E := E) (w := kw_219) (c := kw_219.2 i) (by rw [hn]; exact hi) rfl]
    match i, hi with
    | 0, _ => exact (congrArg (fun z => some (E.1 0, z)) (ce_0 E)).trans (kbWs_get (E := E) (μ := kbM0) (i := 0) (c := .inr (10, [some 1, some 12, some 22, some 32, some 35, some 39, some 43, some 48, some 51, some 54, none])) rfl).symm
    | 1, _ => exact (congrArg (fun z => some (E.1 1, z)) (ce_1 E)).trans (kbWs_get (E := E) (μ := kbM0) (i := 1) (c := .inr (0, [some 2, some 3, some 8, some 11, none, none, none, none, none, none, none, none])) rfl).symm
    | 2, _ => exact (congrArg (fun z => some (E.1 2, z)) (ce_2 E)).trans (kbWs_get (E := E) (μ := kbM0) (i := 2) (c := .inl (0, 150, [])) rfl).symm
    | 3, _ => exact (congrArg (fun z => some (E.1 3, z)) (ce_3 E)).trans (kbWs_get (E := E) (μ := kbM0) (i := 3) (c := .inr (9, [some 4, some 5, some 6, some 7, none])) rfl).symm
    | 4, _ => exact (congrArg (fun z => some (E.1 4, z)) (ce_4 E)).trans (kbWs_get (E := E) (μ := kbM0) (i := 4) (c := .inl (0, 10, [])) rfl).symm
    | 5, _ => exact (congrArg (fun z => some (E.1 5, z)) (ce_5 E)).trans (kbWs_get (E := E) (μ := kbM0) (i := 5) (c := .inl (0, 10, [])) rfl).symm
    | 6, _ => exact (congrArg (fun z => some (E.1 6, z)) (ce_6 E)).trans (kbWs_get (E := E) (μ := kbM0) (i := 6) (c := .inl (0, 10, [])) rfl).symm
    | 7, _ => exact (congrArg (fun z => some (E.1 7, z)) (ce_7 E)).trans (kbWs_get (E := E) (μ := kbM0) (i := 7) (c := .inl (0, 10, [])) rfl).symm
    | 8, _ => exact (congrArg (fun z => some (E.1 8, z)) (ce_8 E)).trans (kbWs_get (E := E) (μ := kbM0) (i := 8) (c := .inr (2, [some 9, some 10, none])) rfl).symm
    | 9, _ => exact (congrArg (fun z => some (E.1 9, z)) (ce_9 E)).trans (kbWs_get (E := E) (μ := kbM0) (i := 9) (c := .inl (0, 6, [])) rfl).symm
    | 10, _ => exact (congrArg (fun z => some (E.1 10, z)) (ce_10 E)).trans (kbWs_get (E := E) (μ := kbM0) (i := 10) (c := .inl (0, 6, [])) rfl).symm
    | 11, _ => exact (congrArg (fun z => some (E.1 11, z)) (ce_11 E)).trans (kbWs_get (E := E) (μ := kbM0) (i := 11) (c := .inl (0, 600, [])) rfl).symm
    | 12, _ => exact (congrArg (fun z => some (E.1 12, z)) (ce_12 E)).trans (kbWs_get (E := E) (μ := kbM0) (i := 12) (c := .inr (8, [some 13, some 18, some 19, some 20, some 21, none, none, none])) rfl).symm
    | 13, _ => exact (congrArg (fun z => some (E.1 13, z)) (ce_13 E)).trans (kbWs_get (E := E) (μ := kbM0) (i := 13) (c := .inr (9, [some 14, some 15, some 16, some 17, none])) rfl).symm
    | 14, _ => exact (congrArg (fun z => some (E.1 14, z)) (ce_14 E)).trans (kbWs_get (E := E) (μ := kbM0) (i := 14) (c := .inl (0, 10, [])) rfl).symm
    | 15, _ => exact (congrArg (fun z => some (E.1 15, z)) (ce_15 E)).trans (kbWs_get (E := E) (μ := kbM0) (i := 15) (c := .inl (0, 10, [])) rfl).symm
    | 16, _ => exact (congrArg (fun z => some (E.1 16, z)) (ce_16 E)).trans (kbWs_get (E := E) (μ := kbM0) (i := 16) (c := .inl (0, 10, [])) rfl).symm
    | 17, _ => exact (congrArg (fun z => some (E.1 17, z)) (ce_17 E)).trans (kbWs_get (E := E) (μ := kbM0) (i := 17) (c := .inl (0, 10, [])) rfl).symm
    | 18, _ => exact (congrArg (fun z => some (E.1 18, z)) (ce_18 E)).trans (kbWs_get (E := E) (μ := kbM0) (i := 18) (c := .inl (0, 200, [])) rfl).symm
    | 19, _ => exact (congrArg (fun z => some (E.1 19, z)) (ce_19 E)).trans (kbWs_get (E := E) (μ := kbM0) (i := 19) (c := .inl (0, 8, [])) rfl).symm
    | 20, _ => exact (congrArg (fun z => some (E.1 20, z)) (ce_20 E)).trans (kbWs_get (E := E) (μ := kbM0) (i := 20) (c := .inl (0, 8, [])) rfl).symm
    | 21, _ => exact (congrArg (fun z => some (E.1 21, z)) (ce_21 E)).trans (kbWs_get (E := E) (μ := kbM0) (i := 21) (c := .inl (0, 3, [])) rfl).symm
    | 22, _ => exact (congrArg (fun z => some (E.1 22, z)) (ce_22 E)).trans (kbWs_get (E := E) (μ := kbM0) (i := 22) (c := .inr (8, [some 23, some 28, some 29, some 30, some 31, none, none, none])) rfl).symm
    | 23, _ => exact (congrArg (fun z => some (E.1 23, z)) (ce_23 E)).trans (kbWs_get (E := E) (μ := kbM0) (i := 23) (c := .inr (9, [some 24, some 25, some 26, some 27, none])) rfl).symm
    | 24, _ => exact (congrArg (fun z => some (E.1 24, z)) (ce_24 E)).trans (kbWs_get (E := E) (μ := kbM0) (i := 24) (c := .inl (0, 10, [])) rfl).symm
    | 25, _ => exact (congrArg (fun z => some (E.1 25, z)) (ce_25 E)).trans (kbWs_get (E := E) (μ := kbM0) (i := 25) (c := .inl (0, 10, [])) rfl).symm
    | 26, _ => exact (congrArg (fun z => some (E.1 26, z)) (ce_26 E)).trans (kbWs_get (E := E) (μ := kbM0) (i := 26) (c := .inl (0, 10, [])) rfl).symm
    | 27, _ => exact (congrArg (fun z => some (E.1 27, z)) (ce_27 E)).trans (kbWs_get (E := E) (μ := kbM0) (i := 27) (c := .inl (0, 10, [])) rfl).symm
    | 28, _ => exact (congrArg (fun z => some (E.1 28, z)) (ce_28 E)).trans (kbWs_get (E := E) (μ := kbM0) (i := 28) (c := .inl (0, 200, [])) rfl).symm
    | 29, _ => exact (congrArg (fun z => some (E.1 29, z)) (ce_29 E)).trans (kbWs_get (E := E) (μ := kbM0) (i := 29) (c := .inl (0, 8, [])) rfl).symm
    | 30, _ => exact (congrArg (fun z => some (E.1 30, z)) (ce_30 E)).trans (kbWs_get (E := E) (μ := kbM0) (i := 30) (c := .inl (0, 8, [])) rfl).symm
    | 31, _ => exact (congrArg (fun z => some (E.1 31, z)) (ce_31 E)).trans (kbWs_get (E := E) (μ := kbM0) (i := 31) (c := .inl (0, 3, [])) rfl).symm
    | 32, _ => exact (congrArg (fun z => some (E.1 32, z)) (ce_32 E)).trans (kbWs_get (E := E) (μ := kbM0) (i := 32) (c := .inr (2, [some 33, some 34, none])) rfl).symm
    | 33, _ => exact (congrArg (fun z => some (E.1 33, z)) (ce_33 E)).trans (kbWs_get (E := E) (μ := kbM0) (i := 33) (c := .inl (0, 6, [])) rfl).symm
    | 34, _ => exact (congrArg (fun z => some (E.1 34, z)) (ce_34 E)).trans (kbWs_get (E := E) (μ := kbM0) (i := 34) (c := .inl (0, 6, [])) rfl).symm
    | 35, _ => exact (congrArg (fun z => some (E.1 35, z)) (ce_35 E)).trans (kbWs_get (E := E) (μ := kbM0) (i := 35) (c := .inr (4, [some 13, some 36, some 37, some 38, none])) rfl).symm
    | 36, _ => exact (congrArg (fun z => some (E.1 36, z)) (ce_36 E)).trans (kbWs_get (E := E) (μ := kbM0) (i := 36) (c := .inl (0, 600, [])) rfl).symm
    | 37, _ => exact (congrArg (fun z => some (E.1 37, z)) (ce_37 E)).trans (kbWs_get (E := E) (μ := kbM0) (i := 37) (c := .inl (0, 64, [])) rfl).symm
    | 38, _ => exact (congrArg (fun z => some (E.1 38, z)) (ce_38 E)).trans (kbWs_get (E := E) (μ := kbM0) (i := 38) (c := .inl (0, 100, [])) rfl).symm
    | 39, _ => exact (congrArg (fun z => some (E.1 39, z)) (ce_39 E)).trans (kbWs_get (E := E) (μ := kbM0) (i := 39) (c := .inr (6, [some 13, some 40, some 41, some 42])) rfl).symm
    | 40, _ => exact (congrArg (fun z => some (E.1 40, z)) (ce_40 E)).trans (kbWs_get (E := E) (μ := kbM0) (i := 40) (c := .inl (0, 12, [])) rfl).symm
    | 41, _ => exact (congrArg (fun z => some (E.1 41, z)) (ce_41 E)).trans (kbWs_get (E := E) (μ := kbM0) (i := 41) (c := .inl (0, 12, [])) rfl).symm
    | 42, _ => exact (congrArg (fun z => some (E.1 42, z)) (ce_42 E)).trans (kbWs_get (E := E) (μ := kbM0) (i := 42) (c := .inl (0, 13, [])) rfl).symm
    | 43, _ => exact (congrArg (fun z => some (E.1 43, z)) (ce_43 E)).trans (kbWs_get (E := E) (μ := kbM0) (i := 43) (c := .inr (7, [some 13, some 35, some 44, some 45, some 46, some 47])) rfl).symm
    | 44, _ => exact (congrArg (fun z => some (E.1 44, z)) (ce_44 E)).trans (kbWs_get (E := E) (μ := kbM0) (i := 44) (c := .inl (1, 130, [])) rfl).symm
    | 45, _ => exact (congrArg (fun z => some (E.1 45, z)) (ce_45 E)).trans (kbWs_get (E := E) (μ := kbM0) (i := 45) (c := .inl (0, 130, [])) rfl).symm
    | 46, _ => exact (congrArg (fun z => some (E.1 46, z)) (ce_46 E)).trans (kbWs_get (E := E) (μ := kbM0) (i := 46) (c := .inl (0, 12, [])) rfl).symm
    | 47, _ => exact (congrArg (fun z => some (E.1 47, z)) (ce_47 E)).trans (kbWs_get (E := E) (μ := kbM0) (i := 47) (c := .inl (0, 70, [])) rfl).symm
    | 48, _ => exact (congrArg (fun z => some (E.1 48, z)) (ce_48 E)).trans (kbWs_get (E := E) (μ := kbM0) (i := 48) (c := .inr (1, [some 13, some 49, some 50])) rfl).symm
    | 49, _ => exact (congrArg (fun z => some (E.1 49, z)) (ce_49 E)).trans (kbWs_get (E := E) (μ := kbM0) (i := 49) (c := .inl (0, 60, [])) rfl).symm
    | 50, _ => exact (congrArg (fun z => some (E.1 50, z)) (ce_50 E)).trans (kbWs_get (E := E) (μ := kbM0) (i := 50) (c := .inl (2, 60, [])) rfl).symm
    | 51, _ => exact (congrArg (fun z => some (E.1 51, z)) (ce_51 E)).trans (kbWs_get (E := E) (μ := kbM0) (i := 51) (c := .inr (3, [some 32, some 12, some 13, some 52, some 53])) rfl).symm
    | 52, _ => exact (congrArg (fun z => some (E.1 52, z)) (ce_52 E)).trans (kbWs_get (E := E) (μ := kbM0) (i := 52) (c := .inl (0, 60, [])) rfl).symm
    | 53, _ => exact (congrArg (fun z => some (E.1 53, z)) (ce_53 E)).trans (kbWs_get (E := E) (μ := kbM0) (i := 53) (c := .inl (0, 100, [])) rfl).symm
    | 54, _ => exact (congrArg (fun z => some (E.1 54, z)) (ce_54 E)).trans (kbWs_get (E := E) (μ := kbM0) (i := 54) (c := .inr (5, [some 51, some 39, some 13, some 55, some 56, none, none, none, none, none, none])) rfl).symm
    | 55, _ => exact (congrArg (fun z => some (E.1 55, z)) (ce_55 E)).trans (kbWs_get (E := E) (μ := kbM0) (i := 55) (c := .inl (0, 10, [])) rfl).symm
    | 56, _ => exact (congrArg (fun z => some (E.1 56, z)) (ce_56 E)).trans (kbWs_get (E := E) (μ := kbM0) (i := 56) (c := .inl (0, 10, [])) rfl).symm
    | 57, _ => exact (congrArg (fun z => some (E.1 57, z)) (ce_57 E)).trans (kbWs_get (E := E) (μ := kbM0) (i := 57) (c := .inr (11, [some 58, some 59, some 60, none, some 61, some 62, some 63, some 64, some 65, some 66, some 67, some 68, some 69, none, none, none, none, none, none, none, none, none, none, some 70, some 71, some 72, some 73, none, none, none, none, some 74, some 75, some 76, some 77, some 78, some 79, some 80, none, some 81, some 82, some 83, some 84, some 85, some 86, none, some 87, some 88, some 89, some 90, some 91, none, none, none, none, some 92, some 93, some 94, some 95, some 96])) rfl).symm
    | 58, _ => exact (congrArg (fun z => some (E.1 58, z)) (ce_58 E)).trans (kbWs_get (E := E) (μ := kbM0) (i := 58) (c := .inl (3, 3, [1000, 1001, 1002])) rfl).symm
    | 59, _ => exact (congrArg (fun z => some (E.1 59, z)) (ce_59 E)).trans (kbWs_get (E := E) (μ := kbM0) (i := 59) (c := .inl (3, 4, [1003, 1004, 1005, 1006])) rfl).symm
    | 60, _ => exact (congrArg (fun z => some (E.1 60, z)) (ce_60 E)).trans (kbWs_get (E := E) (μ := kbM0) (i := 60) (c := .inl (3, 6, [1007, 1008, 1009, 1010, 1011, 1012])) rfl).symm
    | 61, _ => exact (congrArg (fun z => some (E.1 61, z)) (ce_61 E)).trans (kbWs_get (E := E) (μ := kbM0) (i := 61) (c := .inl (0, 6, [])) rfl).symm
    | 62, _ => exact (congrArg (fun z => some (E.1 62, z)) (ce_62 E)).trans (kbWs_get (E := E) (μ := kbM0) (i := 62) (c := .inl (0, 20, [])) rfl).symm
    | 63, _ => exact (congrArg (fun z => some (E.1 63, z)) (ce_63 E)).trans (kbWs_get (E := E) (μ := kbM0) (i := 63) (c := .inl (0, 20, [])) rfl).symm
    | 64, _ => exact (congrArg (fun z => some (E.1 64, z)) (ce_64 E)).trans (kbWs_get (E := E) (μ := kbM0) (i := 64) (c := .inl (0, 20, [])) rfl).symm
    | 65, _ => exact (congrArg (fun z => some (E.1 65, z)) (ce_65 E)).trans (kbWs_get (E := E) (μ := kbM0) (i := 65) (c := .inl (0, 12, [])) rfl).symm
    | 66, _ => exact (congrArg (fun z => some (E.1 66, z)) (ce_66 E)).trans (kbWs_get (E := E) (μ := kbM0) (i := 66) (c := .inl (0, 12, [])) rfl).symm
    | 67, _ => exact (congrArg (fun z => some (E.1 67, z)) (ce_67 E)).trans (kbWs_get (E := E) (μ := kbM0) (i := 67) (c := .inl (0, 1200, [])) rfl).symm
    | 68, _ => exact (congrArg (fun z => some (E.1 68, z)) (ce_68 E)).trans (kbWs_get (E := E) (μ := kbM0) (i := 68) (c := .inl (0, 3, [])) rfl).symm
    | 69, _ => exact (congrArg (fun z => some (E.1 69, z)) (ce_69 E)).trans (kbWs_get (E := E) (μ := kbM0) (i := 69) (c := .inl (0, 600, [])) rfl).symm
    | 70, _ => exact (congrArg (fun z => some (E.1 70, z)) (ce_70 E)).trans (kbWs_get (E := E) (μ := kbM0) (i := 70) (c := .inl (0, 10, [])) rfl).symm
    | 71, _ => exact (congrArg (fun z => some (E.1 71, z)) (ce_71 E)).trans (kbWs_get (E := E) (μ := kbM0) (i := 71) (c := .inl (0, 10, [])) rfl).symm
    | 72, _ => exact (congrArg (fun z => some (E.1 72, z)) (ce_72 E)).trans (kbWs_get (E := E) (μ := kbM0) (i := 72) (c := .inl (0, 10, [])) rfl).symm
    | 73, _ => exact (congrArg (fun z => some (E.1 73, z)) (ce_73 E)).trans (kbWs_get (E := E) (μ := kbM0) (i := 73) (c := .inl (0, 1280, [])) rfl).symm
    | 74, _ => exact (congrArg (fun z => some (E.1 74, z)) (ce_74 E)).trans (kbWs_get (E := E) (μ := kbM0) (i := 74) (c := .inl (0, 6, [])) rfl).symm
    | 75, _ => exact (congrArg (fun z => some (E.1 75, z)) (ce_75 E)).trans (kbWs_get (E := E) (μ := kbM0) (i := 75) (c := .inl (0, 64, [])) rfl).symm
    | 76, _ => exact (congrArg (fun z => some (E.1 76, z)) (ce_76 E)).trans (kbWs_get (E := E) (μ := kbM0) (i := 76) (c := .inl (0, 12, [])) rfl).symm
    | 77, _ => exact (congrArg (fun z => some (E.1 77, z)) (ce_77 E)).trans (kbWs_get (E := E) (μ := kbM0) (i := 77) (c := .inl (0, 143, [])) rfl).symm
    | 78, _ => exact (congrArg (fun z => some (E.1 78, z)) (ce_78 E)).trans (kbWs_get (E := E) (μ := kbM0) (i := 78) (c := .inl (0, 60, [])) rfl).symm
    | 79, _ => exact (congrArg (fun z => some (E.1 79, z)) (ce_79 E)).trans (kbWs_get (E := E) (μ := kbM0) (i := 79) (c := .inl (0, 10, [])) rfl).symm
    | 80, _ => exact (congrArg (fun z => some (E.1 80, z)) (ce_80 E)).trans (kbWs_get (E := E) (μ := kbM0) (i := 80) (c := .inl (1, 143, [])) rfl).symm
    | 81, _ => exact (congrArg (fun z => some (E.1 81, z)) (ce_81 E)).trans (kbWs_get (E := E) (μ := kbM0) (i := 81) (c := .inl (0, 169, [])) rfl).symm
    | 82, _ => exact (congrArg (fun z => some (E.1 82, z)) (ce_82 E)).trans (kbWs_get (E := E) (μ := kbM0) (i := 82) (c := .inl (0, 12, [])) rfl).symm
    | 83, _ => exact (congrArg (fun z => some (E.1 83, z)) (ce_83 E)).trans (kbWs_get (E := E) (μ := kbM0) (i := 83) (c := .inl (0, 12, [])) rfl).symm
    | 84, _ => exact (congrArg (fun z => some (E.1 84, z)) (ce_84 E)).trans (kbWs_get (E := E) (μ := kbM0) (i := 84) (c := .inl (0, 70, [])) rfl).symm
    | 85, _ => exact (congrArg (fun z => some (E.1 85, z)) (ce_85 E)).trans (kbWs_get (E := E) (μ := kbM0) (i := 85) (c := .inl (0, 70, [])) rfl).symm
    | 86, _ => exact (congrArg (fun z => some (E.1 86, z)) (ce_86 E)).trans (kbWs_get (E := E) (μ := kbM0) (i := 86) (c := .inl (0, 3125, [])) rfl).symm
    | 87, _ => exact (congrArg (fun z => some (E.1 87, z)) (ce_87 E)).trans (kbWs_get (E := E) (μ := kbM0) (i := 87) (c := .inl (0, 130, [])) rfl).symm
    | 88, _ => exact (congrArg (fun z => some (E.1 88, z)) (ce_88 E)).trans (kbWs_get (E := E) (μ := kbM0) (i := 88) (c := .inl (1, 130, [])) rfl).symm
    | 89, _ => exact (congrArg (fun z => some (E.1 89, z)) (ce_89 E)).trans (kbWs_get (E := E) (μ := kbM0) (i := 89) (c := .inl (0, 8, [])) rfl).symm
    | 90, _ => exact (congrArg (fun z => some (E.1 90, z)) (ce_90 E)).trans (kbWs_get (E := E) (μ := kbM0) (i := 90) (c := .inl (0, 8, [])) rfl).symm
    | 91, _ => exact (congrArg (fun z => some (E.1 91, z)) (ce_91 E)).trans (kbWs_get (E := E) (μ := kbM0) (i := 91) (c := .inl (0, 20, [])) rfl).symm
    | 92, _ => exact (congrArg (fun z => some (E.1 92, z)) (ce_92 E)).trans (kbWs_get (E := E) (μ := kbM0) (i := 92) (c := .inl (0, 32, [])) rfl).symm
    | 93, _ => exact (congrArg (fun z => some (E.1 93, z)) (ce_93 E)).trans (kbWs_get (E := E) (μ := kbM0) (i := 93) (c := .inl (0, 1280, [])) rfl).symm
    | 94, _ => exact (congrArg (fun z => some (E.1 94, z)) (ce_94 E)).trans (kbWs_get (E := E) (μ := kbM0) (i := 94) (c := .inl (0, 8, [])) rfl).symm
    | 95, _ => exact (congrArg (fun z => some (E.1 95, z)) (ce_95 E)).trans (kbWs_get (E := E) (μ := kbM0) (i := 95) (c := .inl (0, 8, [])) rfl).symm
    | 96, _ => exact (congrArg (fun z => some (E.1 96, z)) (ce_96 E)).trans (kbWs_get (E := E) (μ := kbM0) (i := 96) (c := .inl (0, 3, [])) rfl).symm
    | 97, _ => exact (congrArg (fun z => some (E.1 97, z)) (ce_97 E)).trans (kbWs_get (E := E) (μ := kbM0) (i := 97) (c := .inl (1, 1, [])) rfl).symm
    | n + 98, h => exact absurd h (by omega)
  · rw [List.getElem?_eq_none (by simp [kbPw, hn]; omega), List.getElem?_eq_none (by simp [kbWs]; have := kbSh_len; have h2 : kbN = 98 := rfl; omega)]
theorem z_y {l : Launch} {rm : Room} {ck cn : Nat} {F : kbFt} {pc : Nat} {L : List (Option Value)} {st : List Value} (h : kbY l ML_law [] rm ck cn F pc L st kbM0) : kbZ l ML_law rm ck cn F pc L st kw_219 := by
  intro E p e s m args below meth c C H locs ls hz hP hS hL
  exact h E p e s m args below meth c C.1 (C.2.2.2.2 rfl) H locs ls (by rw [← kw_end E]; exact hP) hS hL
/-- k calls from place j on, from the memory μ, go through -/
def kbGoes (xs : Nat → Int32) : Nat → Nat → kbM → Prop
  | 0, _, _ => True
  | k + 1, j, μ => ∃ (n : Nat) (μ' : kbM), kbStep n (xs j) (xs (j + 1)) (xs (j + 2)) (xs (j + 3)) (xs (j + 4)) (xs (j + 5)) μ = some μ' ∧ kbGoes xs k (j + 6) μ'
theorem kb_toInt {j : Nat} (h : j < 2 ^ 31) : (Int32.ofNat j).toInt = (j : Int) := Int32.toInt_ofNat_of_lt h
theorem kb_cmp {L j : Nat} (hL : L ≤ 3072) (hj : j ≤ 4000) : (Int32.ofNat L - 6 < Int32.ofNat j) ↔ L < j + 6 := by
  rw [Int32.lt_iff_toInt_lt, Int32.toInt_sub, kb_toInt (by omega), kb_toInt (by omega), show (6 : Int32).toInt = 6 by decide, Int.bmod_eq_of_le (by omega) (by omega)]
  omega
theorem kb_idx {L j : Nat} (hL : L ≤ 3072) (hj : j + 6 ≤ L) : kbIdx L j (Int32.ofNat j) := by
  intro k hk
  have e : Int32.ofNat j + Int32.ofNat k = Int32.ofNat (j + k) := by rw [Int32.ofNat_add]
  have e2 : (Int32.ofNat (j + k)).toNatClampNeg = j + k := Int32.toNatClampNeg_ofNat_of_lt (by omega)
  rw [e]
  refine ⟨?_, e2⟩
  intro h
  rcases h with h | h
  · rw [Int32.lt_iff_toInt_lt, kb_toInt (by omega)] at h
    have : (0 : Int32).toInt = 0 := by decide
    omega
  · rw [e2] at h; omega
theorem law_loop {l : Launch} (hl : l.stackTraces = false) {b L : Nat} {xs : Nat → Int32} (hL : L ≤ 3072) : ∀ (k j ck cn : Nat) (μ : kbM), j + 6 * k ≤ L → L < j + 6 * k + 6 → ck + 4 * k ≤ 601024 → cn + 24 * k ≤ 7293034 → kbGoes xs k j μ →
    kbY l ML_law [] room_1 ck cn (kbFlaw b L xs) 23 [some (.ref 4000), some (.ref 0), some (.ref 57), some (.ref 97), some (.int (Int32.ofNat j)), none, none, none] [] μ := by
  intro k
  induction k with
  | zero =>
    intro j ck cn μ h1 h2 h3 h4 hg
    refine y_iload dL_law_23 rfl ?_
    refine y_aload_n dL_law_25 rfl ?_
    refine y_slen dL_law_26 ?_
    refine y_bipush 6 dL_law_27 (by decide) ?_
    refine y_isub dL_law_29 ?_
    refine y_icmp_gt 2006 dL_law_30 (by decide) (fun hc => ?_) (fun hc => absurd ((kb_cmp hL (by omega)).mpr (by omega)) hc)
    refine y_iconst 1 dL_law_2006 (by decide) ?_
    exact y_lawret (by omega) (by omega) dL_law_2007
  | succ k ih =>
    intro j ck cn μ h1 h2 h3 h4 hg
    obtain ⟨n, μ', hs, hg⟩ := hg
    refine y_iload dL_law_23 rfl ?_
    refine y_aload_n dL_law_25 rfl ?_
    refine y_slen dL_law_26 ?_
    refine y_bipush 6 dL_law_27 (by decide) ?_
    refine y_isub dL_law_29 ?_
    refine y_icmp_gt 2006 dL_law_30 (by decide) (fun hc => absurd ((kb_cmp hL (by omega)).mp hc) (by omega)) (fun hc => ?_)
    have hI := kb_idx (L := L) (j := j) hL (by omega)
    refine y_aload_n dL_law_33 rfl ?_
    refine y_iload dL_law_34 rfl ?_
    have hI0 := hI 0 (by decide)
    have e0 : Int32.ofNat j + Int32.ofNat 0 = Int32.ofNat j := by rw [← Int32.ofNat_add]; rfl
    rw [e0] at hI0
    refine y_sld j hI0.1 hI0.2 dL_law_36 ?_
    refine y_bipush 63 dL_law_37 (by decide) ?_
    refine y_iand dL_law_39 ?_
    refine law_switch hl n hI (by omega) (by omega) (xs j) _ _ _ _ _ rfl rfl rfl rfl rfl μ (P := fun z => z = μ') ⟨_, hs, rfl⟩ (fun z hz => ?_)
    subst hz
    refine y_iinc 6 dL_law_2000 rfl (by decide) (Nat.le_of_ble_eq_true rfl) rfl ?_
    refine y_goto 23 dL_law_2003 (by decide) ?_
    have e6 : Int32.ofNat j + 6 = Int32.ofNat (j + 6) := by rw [Int32.ofNat_add]; rfl
    show kbY l ML_law [] room_1 (ck + 4) (cn + 24) (kbFlaw b L xs) 23 [some (.ref 4000), some (.ref 0), some (.ref 57), some (.ref 97), some (.int (Int32.ofNat j + 6)), none, none, none] [] z
    rw [e6]
    exact ih (j + 6) (ck + 4) (cn + 24) z (by omega) (by omega) (by omega) (by omega) hg
theorem law_begin {l : Launch} (hl : l.stackTraces = false) {b L : Nat} {xs : Nat → Int32} (hL : L ≤ 3072) (hg : kbGoes xs (L / 6) 0 kbM0) : kbZ l ML_law room_1 0 0 (kbFlaw b L xs) 0 [some (.ref 4000), none, none, none, none, none, none, none] [] kw_0 := by
  refine z_new (w' := kw_1) nwL_8 rfl (Nat.le_of_ble_eq_true rfl) (Nat.le_of_ble_eq_true rfl) (Nat.le_of_ble_eq_true rfl) dL_law_0 ?_
  refine z_dup dL_law_3 ?_
  refine z_inv (w' := kw_125) ciL_91 (zc_KB_0 (l := l)) rfl rfl (Nat.le_of_ble_eq_true rfl) ⟨(Nat.le_of_ble_eq_true rfl), (Nat.le_of_ble_eq_true rfl), (Nat.le_of_ble_eq_true rfl), (Nat.le_of_ble_eq_true rfl)⟩ dL_law_4 ?_
  refine z_astore_n dL_law_7 (Nat.le_of_ble_eq_true rfl) rfl ?_
  refine z_new (w' := kw_126) nwL_92 rfl (Nat.le_of_ble_eq_true rfl) (Nat.le_of_ble_eq_true rfl) (Nat.le_of_ble_eq_true rfl) dL_law_8 ?_
  refine z_dup dL_law_11 ?_
  refine z_inv (w' := kw_218) ciL_94 (zc_MD_57 (l := l)) rfl rfl (Nat.le_of_ble_eq_true rfl) ⟨(Nat.le_of_ble_eq_true rfl), (Nat.le_of_ble_eq_true rfl), (Nat.le_of_ble_eq_true rfl), (Nat.le_of_ble_eq_true rfl)⟩ dL_law_12 ?_
  refine z_astore_n dL_law_15 (Nat.le_of_ble_eq_true rfl) rfl ?_
  refine z_iconst 1 dL_law_16 (by decide) ?_
  refine z_newa (N := 1) (w' := kw_219) (Or.inr (Or.inl ⟨rfl, rfl⟩)) ac_long (by decide) (by decide) rfl (Nat.le_of_ble_eq_true rfl) (by decide) (Nat.le_of_ble_eq_true rfl) (Nat.le_of_ble_eq_true rfl) dL_law_17 ?_
  refine z_astore_n dL_law_19 (Nat.le_of_ble_eq_true rfl) rfl ?_
  refine z_y ?_
  refine y_iconst 0 dL_law_20 (by decide) ?_
  refine y_istore dL_law_21 (Nat.le_of_ble_eq_true rfl) rfl ?_
  exact law_loop hl hL (L / 6) 0 _ _ kbM0 (by omega) (by omega) (by simp only [Nat.zero_add]; omega) (by simp only [Nat.zero_add]; omega) hg
theorem whole_start {p : Program} {e : Env} {s : State} {m : MethodId} {below : List Frame} {meth : Method} {c : Code} (l : Launch) (hl : l.stackTraces = false) {b L : Nat} {xs : Nat → Int32} (hL : L ≤ 3072) (hg : kbGoes xs (L / 6) 0 kbM0) (C0 : lw_At p s m meth c b L xs) (htab : c.exceptionTable.toList = []) (hname : meth.name = "law") : W p l e room_1 s m #[Value.ref b] below meth c s.heap [] 0 0 (lw_Z below #[Value.ref b] s) (entryFrame m ([Value.ref b] : List Value).toArray 8) := by
  obtain ⟨hx, hb, hr, hml, hown, hw, hX, hbl, hlk, hgv⟩ := C0
  obtain ⟨E, hK, hJ, hTb, hSt, hAO, hB, hXw, h4, h98⟩ := kb_entry hw (fun c hc => flat_of_before _ hgv c (List.mem_append_right _ hc))
  have key := law_begin (l := l) hl (b := b) hL hg
  obtain ⟨ls, hls, hLL⟩ := kb_locals (E := E) (av := [.ref 4000]) (k := 7) (n := 8) rfl
  have hav : ([Value.ref b] : List Value) = [Value.ref 4000].map (kbV E) := by simp [kbV, h4]
  have hP0 : va_P E.2.1 vwCl (kbPw E kw_0) s.heap := by
    intro k q hk
    rw [show kbPw E kw_0 = [] from rfl] at hk
    cases hk
  have hW := key E p e s m #[Value.ref b] below meth c ⟨⟨hx, hb, hml, hr, hlk, hown, fun w hw' => hw w (kbT_in hw'), hK, hJ, hTb, hSt⟩, hname, hAO, hB, fun _ => ⟨htab, hXw⟩⟩ s.heap [] ls (by rw [h98 0 (by decide)]; rfl) hP0 va_S.rf hLL
  have hlaw : kbLaw b L xs E s #[Value.ref b] := ⟨rfl, h4, hX, hbl, h98⟩
  have he : entryFrame m ([Value.ref b] : List Value).toArray 8 = F0 m 0 ls [] := by rw [hav, lg_entry_eq, hls]
  rw [he]
  intro T hT X
  obtain ⟨t, a1, b1⟩ := hW T hT X
  exact ⟨t, a1, b1 hlaw⟩
