def kw_0 : kbPW := (0, fun _ => .inl (0, 0, fun _ => none))
def kw_1 : kbPW := (1, fun i => if i = 0 then .inr (10, [.null, .null, .null, .null, .null, .null, .null, .null, .null, .null, .int 0]) else kw_0.2 i)
def kw_2 : kbPW := (2, fun i => if i = 1 then .inr (0, [.null, .null, .null, .null, .int 0, .int 0, .int 0, .int 0, .int 0, .int 0, .int 0, .int 0]) else kw_1.2 i)
def kw_3 : kbPW := (3, fun i => if i = 2 then .inl (0, 150, (fun _ => none)) else kw_2.2 i)
def kw_4 : kbPW := (3, fun i => if i = 1 then .inr (0, [.ref 2, .null, .null, .null, .int 0, .int 0, .int 0, .int 0, .int 0, .int 0, .int 0, .int 0]) else kw_3.2 i)
def kw_5 : kbPW := (4, fun i => if i = 3 then .inr (9, [.null, .null, .null, .null, .int 0]) else kw_4.2 i)
def kw_6 : kbPW := (5, fun i => if i = 4 then .inl (0, 10, (fun _ => none)) else kw_5.2 i)
def kw_7 : kbPW := (5, fun i => if i = 3 then .inr (9, [.ref 4, .null, .null, .null, .int 0]) else kw_6.2 i)
def kw_8 : kbPW := (6, fun i => if i = 5 then .inl (0, 10, (fun _ => none)) else kw_7.2 i)
def kw_9 : kbPW := (6, fun i => if i = 3 then .inr (9, [.ref 4, .ref 5, .null, .null, .int 0]) else kw_8.2 i)
def kw_10 : kbPW := (7, fun i => if i = 6 then .inl (0, 10, (fun _ => none)) else kw_9.2 i)
def kw_11 : kbPW := (7, fun i => if i = 3 then .inr (9, [.ref 4, .ref 5, .ref 6, .null, .int 0]) else kw_10.2 i)
def kw_12 : kbPW := (8, fun i => if i = 7 then .inl (0, 10, (fun _ => none)) else kw_11.2 i)
def kw_13 : kbPW := (8, fun i => if i = 3 then .inr (9, [.ref 4, .ref 5, .ref 6, .ref 7, .int 0]) else kw_12.2 i)
def kw_14 : kbPW := (8, fun i => if i = 1 then .inr (0, [.ref 2, .ref 3, .null, .null, .int 0, .int 0, .int 0, .int 0, .int 0, .int 0, .int 0, .int 0]) else kw_13.2 i)
def kw_15 : kbPW := (9, fun i => if i = 8 then .inr (2, [.null, .null, .int 0]) else kw_14.2 i)
def kw_16 : kbPW := (10, fun i => if i = 9 then .inl (0, 6, (fun _ => none)) else kw_15.2 i)
def kw_17 : kbPW := (10, fun i => if i = 8 then .inr (2, [.ref 9, .null, .int 0]) else kw_16.2 i)
def kw_18 : kbPW := (11, fun i => if i = 10 then .inl (0, 6, (fun _ => none)) else kw_17.2 i)
def kw_19 : kbPW := (11, fun i => if i = 8 then .inr (2, [.ref 9, .ref 10, .int 0]) else kw_18.2 i)
def kw_20 : kbPW := (11, fun i => if i = 1 then .inr (0, [.ref 2, .ref 3, .ref 8, .null, .int 0, .int 0, .int 0, .int 0, .int 0, .int 0, .int 0, .int 0]) else kw_19.2 i)
def kw_21 : kbPW := (12, fun i => if i = 11 then .inl (0, 600, (fun _ => none)) else kw_20.2 i)
def kw_22 : kbPW := (12, fun i => if i = 1 then .inr (0, [.ref 2, .ref 3, .ref 8, .ref 11, .int 0, .int 0, .int 0, .int 0, .int 0, .int 0, .int 0, .int 0]) else kw_21.2 i)
def kw_23 : kbPW := (12, fun i => if i = 1 then .inr (0, [.ref 2, .ref 3, .ref 8, .ref 11, .int 0, .int 0, .int 0, .int 0, .int 0, .int 0, .int 0, .int (-1)]) else kw_22.2 i)
def kw_24 : kbPW := (12, fun i => if i = 0 then .inr (10, [.ref 1, .null, .null, .null, .null, .null, .null, .null, .null, .null, .int 0]) else kw_23.2 i)
def kw_25 : kbPW := (13, fun i => if i = 12 then .inr (8, [.null, .null, .null, .null, .null, .int 0, .int 0, .int 0]) else kw_24.2 i)
def kw_26 : kbPW := (14, fun i => if i = 13 then .inr (9, [.null, .null, .null, .null, .int 0]) else kw_25.2 i)
def kw_27 : kbPW := (15, fun i => if i = 14 then .inl (0, 10, (fun _ => none)) else kw_26.2 i)
def kw_28 : kbPW := (15, fun i => if i = 13 then .inr (9, [.ref 14, .null, .null, .null, .int 0]) else kw_27.2 i)
def kw_29 : kbPW := (16, fun i => if i = 15 then .inl (0, 10, (fun _ => none)) else kw_28.2 i)
def kw_30 : kbPW := (16, fun i => if i = 13 then .inr (9, [.ref 14, .ref 15, .null, .null, .int 0]) else kw_29.2 i)
def kw_31 : kbPW := (17, fun i => if i = 16 then .inl (0, 10, (fun _ => none)) else kw_30.2 i)
def kw_32 : kbPW := (17, fun i => if i = 13 then .inr (9, [.ref 14, .ref 15, .ref 16, .null, .int 0]) else kw_31.2 i)
def kw_33 : kbPW := (18, fun i => if i = 17 then .inl (0, 10, (fun _ => none)) else kw_32.2 i)
def kw_34 : kbPW := (18, fun i => if i = 13 then .inr (9, [.ref 14, .ref 15, .ref 16, .ref 17, .int 0]) else kw_33.2 i)
def kw_35 : kbPW := (18, fun i => if i = 12 then .inr (8, [.ref 13, .null, .null, .null, .null, .int 0, .int 0, .int 0]) else kw_34.2 i)
def kw_36 : kbPW := (19, fun i => if i = 18 then .inl (0, 200, (fun _ => none)) else kw_35.2 i)
def kw_37 : kbPW := (19, fun i => if i = 12 then .inr (8, [.ref 13, .ref 18, .null, .null, .null, .int 0, .int 0, .int 0]) else kw_36.2 i)
def kw_38 : kbPW := (20, fun i => if i = 19 then .inl (0, 8, (fun _ => none)) else kw_37.2 i)
def kw_39 : kbPW := (20, fun i => if i = 12 then .inr (8, [.ref 13, .ref 18, .ref 19, .null, .null, .int 0, .int 0, .int 0]) else kw_38.2 i)
def kw_40 : kbPW := (21, fun i => if i = 20 then .inl (0, 8, (fun _ => none)) else kw_39.2 i)
def kw_41 : kbPW := (21, fun i => if i = 12 then .inr (8, [.ref 13, .ref 18, .ref 19, .ref 20, .null, .int 0, .int 0, .int 0]) else kw_40.2 i)
def kw_42 : kbPW := (22, fun i => if i = 21 then .inl (0, 3, (fun _ => none)) else kw_41.2 i)
def kw_43 : kbPW := (22, fun i => if i = 12 then .inr (8, [.ref 13, .ref 18, .ref 19, .ref 20, .ref 21, .int 0, .int 0, .int 0]) else kw_42.2 i)
def kw_44 : kbPW := (22, fun i => if i = 0 then .inr (10, [.ref 1, .ref 12, .null, .null, .null, .null, .null, .null, .null, .null, .int 0]) else kw_43.2 i)
def kw_45 : kbPW := (23, fun i => if i = 22 then .inr (8, [.null, .null, .null, .null, .null, .int 0, .int 0, .int 0]) else kw_44.2 i)
def kw_46 : kbPW := (24, fun i => if i = 23 then .inr (9, [.null, .null, .null, .null, .int 0]) else kw_45.2 i)
def kw_47 : kbPW := (25, fun i => if i = 24 then .inl (0, 10, (fun _ => none)) else kw_46.2 i)
def kw_48 : kbPW := (25, fun i => if i = 23 then .inr (9, [.ref 24, .null, .null, .null, .int 0]) else kw_47.2 i)
def kw_49 : kbPW := (26, fun i => if i = 25 then .inl (0, 10, (fun _ => none)) else kw_48.2 i)
def kw_50 : kbPW := (26, fun i => if i = 23 then .inr (9, [.ref 24, .ref 25, .null, .null, .int 0]) else kw_49.2 i)
def kw_51 : kbPW := (27, fun i => if i = 26 then .inl (0, 10, (fun _ => none)) else kw_50.2 i)
def kw_52 : kbPW := (27, fun i => if i = 23 then .inr (9, [.ref 24, .ref 25, .ref 26, .null, .int 0]) else kw_51.2 i)
def kw_53 : kbPW := (28, fun i => if i = 27 then .inl (0, 10, (fun _ => none)) else kw_52.2 i)
def kw_54 : kbPW := (28, fun i => if i = 23 then .inr (9, [.ref 24, .ref 25, .ref 26, .ref 27, .int 0]) else kw_53.2 i)
def kw_55 : kbPW := (28, fun i => if i = 22 then .inr (8, [.ref 23, .null, .null, .null, .null, .int 0, .int 0, .int 0]) else kw_54.2 i)
def kw_56 : kbPW := (29, fun i => if i = 28 then .inl (0, 200, (fun _ => none)) else kw_55.2 i)
def kw_57 : kbPW := (29, fun i => if i = 22 then .inr (8, [.ref 23, .ref 28, .null, .null, .null, .int 0, .int 0, .int 0]) else kw_56.2 i)
def kw_58 : kbPW := (30, fun i => if i = 29 then .inl (0, 8, (fun _ => none)) else kw_57.2 i)
def kw_59 : kbPW := (30, fun i => if i = 22 then .inr (8, [.ref 23, .ref 28, .ref 29, .null, .null, .int 0, .int 0, .int 0]) else kw_58.2 i)
def kw_60 : kbPW := (31, fun i => if i = 30 then .inl (0, 8, (fun _ => none)) else kw_59.2 i)
def kw_61 : kbPW := (31, fun i => if i = 22 then .inr (8, [.ref 23, .ref 28, .ref 29, .ref 30, .null, .int 0, .int 0, .int 0]) else kw_60.2 i)
def kw_62 : kbPW := (32, fun i => if i = 31 then .inl (0, 3, (fun _ => none)) else kw_61.2 i)
def kw_63 : kbPW := (32, fun i => if i = 22 then .inr (8, [.ref 23, .ref 28, .ref 29, .ref 30, .ref 31, .int 0, .int 0, .int 0]) else kw_62.2 i)
def kw_64 : kbPW := (32, fun i => if i = 0 then .inr (10, [.ref 1, .ref 12, .ref 22, .null, .null, .null, .null, .null, .null, .null, .int 0]) else kw_63.2 i)
def kw_65 : kbPW := (33, fun i => if i = 32 then .inr (2, [.null, .null, .int 0]) else kw_64.2 i)
def kw_66 : kbPW := (34, fun i => if i = 33 then .inl (0, 6, (fun _ => none)) else kw_65.2 i)
def kw_67 : kbPW := (34, fun i => if i = 32 then .inr (2, [.ref 33, .null, .int 0]) else kw_66.2 i)
def kw_68 : kbPW := (35, fun i => if i = 34 then .inl (0, 6, (fun _ => none)) else kw_67.2 i)
def kw_69 : kbPW := (35, fun i => if i = 32 then .inr (2, [.ref 33, .ref 34, .int 0]) else kw_68.2 i)
def kw_70 : kbPW := (35, fun i => if i = 0 then .inr (10, [.ref 1, .ref 12, .ref 22, .ref 32, .null, .null, .null, .null, .null, .null, .int 0]) else kw_69.2 i)
def kw_71 : kbPW := (36, fun i => if i = 35 then .inr (4, [.null, .null, .null, .null, .int 0]) else kw_70.2 i)
def kw_72 : kbPW := (37, fun i => if i = 36 then .inl (0, 600, (fun _ => none)) else kw_71.2 i)
def kw_73 : kbPW := (37, fun i => if i = 35 then .inr (4, [.null, .ref 36, .null, .null, .int 0]) else kw_72.2 i)
def kw_74 : kbPW := (38, fun i => if i = 37 then .inl (0, 64, (fun _ => none)) else kw_73.2 i)
def kw_75 : kbPW := (38, fun i => if i = 35 then .inr (4, [.null, .ref 36, .ref 37, .null, .int 0]) else kw_74.2 i)
def kw_76 : kbPW := (39, fun i => if i = 38 then .inl (0, 100, (fun _ => none)) else kw_75.2 i)
def kw_77 : kbPW := (39, fun i => if i = 35 then .inr (4, [.null, .ref 36, .ref 37, .ref 38, .int 0]) else kw_76.2 i)
def kw_78 : kbPW := (39, fun i => if i = 35 then .inr (4, [.ref 13, .ref 36, .ref 37, .ref 38, .int 0]) else kw_77.2 i)
def kw_79 : kbPW := (39, fun i => if i = 0 then .inr (10, [.ref 1, .ref 12, .ref 22, .ref 32, .ref 35, .null, .null, .null, .null, .null, .int 0]) else kw_78.2 i)
def kw_80 : kbPW := (40, fun i => if i = 39 then .inr (6, [.null, .null, .null, .null]) else kw_79.2 i)
def kw_81 : kbPW := (41, fun i => if i = 40 then .inl (0, 12, (fun _ => none)) else kw_80.2 i)
def kw_82 : kbPW := (41, fun i => if i = 39 then .inr (6, [.null, .ref 40, .null, .null]) else kw_81.2 i)
def kw_83 : kbPW := (42, fun i => if i = 41 then .inl (0, 12, (fun _ => none)) else kw_82.2 i)
def kw_84 : kbPW := (42, fun i => if i = 39 then .inr (6, [.null, .ref 40, .ref 41, .null]) else kw_83.2 i)
def kw_85 : kbPW := (43, fun i => if i = 42 then .inl (0, 13, (fun _ => none)) else kw_84.2 i)
def kw_86 : kbPW := (43, fun i => if i = 39 then .inr (6, [.null, .ref 40, .ref 41, .ref 42]) else kw_85.2 i)
def kw_87 : kbPW := (43, fun i => if i = 39 then .inr (6, [.ref 13, .ref 40, .ref 41, .ref 42]) else kw_86.2 i)
def kw_88 : kbPW := (43, fun i => if i = 0 then .inr (10, [.ref 1, .ref 12, .ref 22, .ref 32, .ref 35, .ref 39, .null, .null, .null, .null, .int 0]) else kw_87.2 i)
def kw_89 : kbPW := (44, fun i => if i = 43 then .inr (7, [.null, .null, .null, .null, .null, .null]) else kw_88.2 i)
def kw_90 : kbPW := (45, fun i => if i = 44 then .inl (1, 130, (fun _ => none)) else kw_89.2 i)
def kw_91 : kbPW := (45, fun i => if i = 43 then .inr (7, [.null, .null, .ref 44, .null, .null, .null]) else kw_90.2 i)
def kw_92 : kbPW := (46, fun i => if i = 45 then .inl (0, 130, (fun _ => none)) else kw_91.2 i)
def kw_93 : kbPW := (46, fun i => if i = 43 then .inr (7, [.null, .null, .ref 44, .ref 45, .null, .null]) else kw_92.2 i)
def kw_94 : kbPW := (47, fun i => if i = 46 then .inl (0, 12, (fun _ => none)) else kw_93.2 i)
def kw_95 : kbPW := (47, fun i => if i = 43 then .inr (7, [.null, .null, .ref 44, .ref 45, .ref 46, .null]) else kw_94.2 i)
def kw_96 : kbPW := (48, fun i => if i = 47 then .inl (0, 70, (fun _ => none)) else kw_95.2 i)
def kw_97 : kbPW := (48, fun i => if i = 43 then .inr (7, [.null, .null, .ref 44, .ref 45, .ref 46, .ref 47]) else kw_96.2 i)
def kw_98 : kbPW := (48, fun i => if i = 43 then .inr (7, [.ref 13, .null, .ref 44, .ref 45, .ref 46, .ref 47]) else kw_97.2 i)
def kw_99 : kbPW := (48, fun i => if i = 43 then .inr (7, [.ref 13, .ref 35, .ref 44, .ref 45, .ref 46, .ref 47]) else kw_98.2 i)
def kw_100 : kbPW := (48, fun i => if i = 0 then .inr (10, [.ref 1, .ref 12, .ref 22, .ref 32, .ref 35, .ref 39, .ref 43, .null, .null, .null, .int 0]) else kw_99.2 i)
def kw_101 : kbPW := (49, fun i => if i = 48 then .inr (1, [.null, .null, .null]) else kw_100.2 i)
def kw_102 : kbPW := (50, fun i => if i = 49 then .inl (0, 60, (fun _ => none)) else kw_101.2 i)
def kw_103 : kbPW := (50, fun i => if i = 48 then .inr (1, [.null, .ref 49, .null]) else kw_102.2 i)
def kw_104 : kbPW := (51, fun i => if i = 50 then .inl (2, 60, (fun _ => none)) else kw_103.2 i)
def kw_105 : kbPW := (51, fun i => if i = 48 then .inr (1, [.null, .ref 49, .ref 50]) else kw_104.2 i)
def kw_106 : kbPW := (51, fun i => if i = 48 then .inr (1, [.ref 13, .ref 49, .ref 50]) else kw_105.2 i)
def kw_107 : kbPW := (51, fun i => if i = 0 then .inr (10, [.ref 1, .ref 12, .ref 22, .ref 32, .ref 35, .ref 39, .ref 43, .ref 48, .null, .null, .int 0]) else kw_106.2 i)
def kw_108 : kbPW := (52, fun i => if i = 51 then .inr (3, [.null, .null, .null, .null, .null]) else kw_107.2 i)
def kw_109 : kbPW := (53, fun i => if i = 52 then .inl (0, 60, (fun _ => none)) else kw_108.2 i)
def kw_110 : kbPW := (53, fun i => if i = 51 then .inr (3, [.null, .null, .null, .ref 52, .null]) else kw_109.2 i)
def kw_111 : kbPW := (54, fun i => if i = 53 then .inl (0, 100, (fun _ => none)) else kw_110.2 i)
def kw_112 : kbPW := (54, fun i => if i = 51 then .inr (3, [.null, .null, .null, .ref 52, .ref 53]) else kw_111.2 i)
def kw_113 : kbPW := (54, fun i => if i = 51 then .inr (3, [.ref 32, .null, .null, .ref 52, .ref 53]) else kw_112.2 i)
def kw_114 : kbPW := (54, fun i => if i = 51 then .inr (3, [.ref 32, .ref 12, .null, .ref 52, .ref 53]) else kw_113.2 i)
def kw_115 : kbPW := (54, fun i => if i = 51 then .inr (3, [.ref 32, .ref 12, .ref 13, .ref 52, .ref 53]) else kw_114.2 i)
def kw_116 : kbPW := (54, fun i => if i = 0 then .inr (10, [.ref 1, .ref 12, .ref 22, .ref 32, .ref 35, .ref 39, .ref 43, .ref 48, .ref 51, .null, .int 0]) else kw_115.2 i)
def kw_117 : kbPW := (55, fun i => if i = 54 then .inr (5, [.null, .null, .null, .null, .null, .int 0, .int 0, .int 0, .int 0, .int 0, .int 0]) else kw_116.2 i)
def kw_118 : kbPW := (56, fun i => if i = 55 then .inl (0, 10, (fun _ => none)) else kw_117.2 i)
def kw_119 : kbPW := (56, fun i => if i = 54 then .inr (5, [.null, .null, .null, .ref 55, .null, .int 0, .int 0, .int 0, .int 0, .int 0, .int 0]) else kw_118.2 i)
def kw_120 : kbPW := (57, fun i => if i = 56 then .inl (0, 10, (fun _ => none)) else kw_119.2 i)
def kw_121 : kbPW := (57, fun i => if i = 54 then .inr (5, [.null, .null, .null, .ref 55, .ref 56, .int 0, .int 0, .int 0, .int 0, .int 0, .int 0]) else kw_120.2 i)
def kw_122 : kbPW := (57, fun i => if i = 54 then .inr (5, [.ref 51, .null, .null, .ref 55, .ref 56, .int 0, .int 0, .int 0, .int 0, .int 0, .int 0]) else kw_121.2 i)
def kw_123 : kbPW := (57, fun i => if i = 54 then .inr (5, [.ref 51, .ref 39, .null, .ref 55, .ref 56, .int 0, .int 0, .int 0, .int 0, .int 0, .int 0]) else kw_122.2 i)
def kw_124 : kbPW := (57, fun i => if i = 54 then .inr (5, [.ref 51, .ref 39, .ref 13, .ref 55, .ref 56, .int 0, .int 0, .int 0, .int 0, .int 0, .int 0]) else kw_123.2 i)
def kw_125 : kbPW := (57, fun i => if i = 0 then .inr (10, [.ref 1, .ref 12, .ref 22, .ref 32, .ref 35, .ref 39, .ref 43, .ref 48, .ref 51, .ref 54, .int 0]) else kw_124.2 i)
def kw_126 : kbPW := (58, fun i => if i = 57 then .inr (11, [.null, .null, .null, .int 0, .null, .null, .null, .null, .null, .null, .null, .null, .null, .int 0, .int 0, .int 0, .int 0, .int 0, .int 0, .int 0, .int 0, .int 0, .int 0, .null, .null, .null, .null, .int 0, .int 0, .int 0, .int 0, .null, .null, .null, .null, .null, .null, .null, .int 0, .null, .null, .null, .null, .null, .null, .int 0, .null, .null, .null, .null, .null, .int 0, .int 0, .int 0, .int 0, .null, .null, .null, .null, .null]) else kw_125.2 i)
def kw_127 : kbPW := (59, fun i => if i = 58 then .inl (3, 3, (fun _ => none)) else kw_126.2 i)
def kw_128 : kbPW := (59, fun i => if i = 58 then .inl (3, 3, (fun q => if q = 0 then some 1000 else (fun _ => none) q)) else kw_127.2 i)
def kw_129 : kbPW := (59, fun i => if i = 58 then .inl (3, 3, (fun q => if q = 1 then some 1001 else (fun q => if q = 0 then some 1000 else (fun _ => none) q) q)) else kw_128.2 i)
def kw_130 : kbPW := (59, fun i => if i = 58 then .inl (3, 3, (fun q => if q = 2 then some 1002 else (fun q => if q = 1 then some 1001 else (fun q => if q = 0 then some 1000 else (fun _ => none) q) q) q)) else kw_129.2 i)
def kw_131 : kbPW := (59, fun i => if i = 57 then .inr (11, [.ref 58, .null, .null, .int 0, .null, .null, .null, .null, .null, .null, .null, .null, .null, .int 0, .int 0, .int 0, .int 0, .int 0, .int 0, .int 0, .int 0, .int 0, .int 0, .null, .null, .null, .null, .int 0, .int 0, .int 0, .int 0, .null, .null, .null, .null, .null, .null, .null, .int 0, .null, .null, .null, .null, .null, .null, .int 0, .null, .null, .null, .null, .null, .int 0, .int 0, .int 0, .int 0, .null, .null, .null, .null, .null]) else kw_130.2 i)
def kw_132 : kbPW := (60, fun i => if i = 59 then .inl (3, 4, (fun _ => none)) else kw_131.2 i)
def kw_133 : kbPW := (60, fun i => if i = 59 then .inl (3, 4, (fun q => if q = 0 then some 1003 else (fun _ => none) q)) else kw_132.2 i)
def kw_134 : kbPW := (60, fun i => if i = 59 then .inl (3, 4, (fun q => if q = 1 then some 1004 else (fun q => if q = 0 then some 1003 else (fun _ => none) q) q)) else kw_133.2 i)
def kw_135 : kbPW := (60, fun i => if i = 59 then .inl (3, 4, (fun q => if q = 2 then some 1005 else (fun q => if q = 1 then some 1004 else (fun q => if q = 0 then some 1003 else (fun _ => none) q) q) q)) else kw_134.2 i)
def kw_136 : kbPW := (60, fun i => if i = 59 then .inl (3, 4, (fun q => if q = 3 then some 1006 else (fun q => if q = 2 then some 1005 else (fun q => if q = 1 then some 1004 else (fun q => if q = 0 then some 1003 else (fun _ => none) q) q) q) q)) else kw_135.2 i)
def kw_137 : kbPW := (60, fun i => if i = 57 then .inr (11, [.ref 58, .ref 59, .null, .int 0, .null, .null, .null, .null, .null, .null, .null, .null, .null, .int 0, .int 0, .int 0, .int 0, .int 0, .int 0, .int 0, .int 0, .int 0, .int 0, .null, .null, .null, .null, .int 0, .int 0, .int 0, .int 0, .null, .null, .null, .null, .null, .null, .null, .int 0, .null, .null, .null, .null, .null, .null, .int 0, .null, .null, .null, .null, .null, .int 0, .int 0, .int 0, .int 0, .null, .null, .null, .null, .null]) else kw_136.2 i)
def kw_138 : kbPW := (61, fun i => if i = 60 then .inl (3, 6, (fun _ => none)) else kw_137.2 i)
def kw_139 : kbPW := (61, fun i => if i = 60 then .inl (3, 6, (fun q => if q = 0 then some 1007 else (fun _ => none) q)) else kw_138.2 i)
def kw_140 : kbPW := (61, fun i => if i = 60 then .inl (3, 6, (fun q => if q = 1 then some 1008 else (fun q => if q = 0 then some 1007 else (fun _ => none) q) q)) else kw_139.2 i)
def kw_141 : kbPW := (61, fun i => if i = 60 then .inl (3, 6, (fun q => if q = 2 then some 1009 else (fun q => if q = 1 then some 1008 else (fun q => if q = 0 then some 1007 else (fun _ => none) q) q) q)) else kw_140.2 i)
def kw_142 : kbPW := (61, fun i => if i = 60 then .inl (3, 6, (fun q => if q = 3 then some 1010 else (fun q => if q = 2 then some 1009 else (fun q => if q = 1 then some 1008 else (fun q => if q = 0 then some 1007 else (fun _ => none) q) q) q) q)) else kw_141.2 i)
def kw_143 : kbPW := (61, fun i => if i = 60 then .inl (3, 6, (fun q => if q = 4 then some 1011 else (fun q => if q = 3 then some 1010 else (fun q => if q = 2 then some 1009 else (fun q => if q = 1 then some 1008 else (fun q => if q = 0 then some 1007 else (fun _ => none) q) q) q) q) q)) else kw_142.2 i)
def kw_144 : kbPW := (61, fun i => if i = 60 then .inl (3, 6, (fun q => if q = 5 then some 1012 else (fun q => if q = 4 then some 1011 else (fun q => if q = 3 then some 1010 else (fun q => if q = 2 then some 1009 else (fun q => if q = 1 then some 1008 else (fun q => if q = 0 then some 1007 else (fun _ => none) q) q) q) q) q) q)) else kw_143.2 i)
def kw_145 : kbPW := (61, fun i => if i = 57 then .inr (11, [.ref 58, .ref 59, .ref 60, .int 0, .null, .null, .null, .null, .null, .null, .null, .null, .null, .int 0, .int 0, .int 0, .int 0, .int 0, .int 0, .int 0, .int 0, .int 0, .int 0, .null, .null, .null, .null, .int 0, .int 0, .int 0, .int 0, .null, .null, .null, .null, .null, .null, .null, .int 0, .null, .null, .null, .null, .null, .null, .int 0, .null, .null, .null, .null, .null, .int 0, .int 0, .int 0, .int 0, .null, .null, .null, .null, .null]) else kw_144.2 i)
def kw_146 : kbPW := (62, fun i => if i = 61 then .inl (0, 6, (fun _ => none)) else kw_145.2 i)
def kw_147 : kbPW := (62, fun i => if i = 57 then .inr (11, [.ref 58, .ref 59, .ref 60, .int 0, .ref 61, .null, .null, .null, .null, .null, .null, .null, .null, .int 0, .int 0, .int 0, .int 0, .int 0, .int 0, .int 0, .int 0, .int 0, .int 0, .null, .null, .null, .null, .int 0, .int 0, .int 0, .int 0, .null, .null, .null, .null, .null, .null, .null, .int 0, .null, .null, .null, .null, .null, .null, .int 0, .null, .null, .null, .null, .null, .int 0, .int 0, .int 0, .int 0, .null, .null, .null, .null, .null]) else kw_146.2 i)
def kw_148 : kbPW := (63, fun i => if i = 62 then .inl (0, 20, (fun _ => none)) else kw_147.2 i)
def kw_149 : kbPW := (63, fun i => if i = 57 then .inr (11, [.ref 58, .ref 59, .ref 60, .int 0, .ref 61, .ref 62, .null, .null, .null, .null, .null, .null, .null, .int 0, .int 0, .int 0, .int 0, .int 0, .int 0, .int 0, .int 0, .int 0, .int 0, .null, .null, .null, .null, .int 0, .int 0, .int 0, .int 0, .null, .null, .null, .null, .null, .null, .null, .int 0, .null, .null, .null, .null, .null, .null, .int 0, .null, .null, .null, .null, .null, .int 0, .int 0, .int 0, .int 0, .null, .null, .null, .null, .null]) else kw_148.2 i)
def kw_150 : kbPW := (64, fun i => if i = 63 then .inl (0, 20, (fun _ => none)) else kw_149.2 i)
def kw_151 : kbPW := (64, fun i => if i = 57 then .inr (11, [.ref 58, .ref 59, .ref 60, .int 0, .ref 61, .ref 62, .ref 63, .null, .null, .null, .null, .null, .null, .int 0, .int 0, .int 0, .int 0, .int 0, .int 0, .int 0, .int 0, .int 0, .int 0, .null, .null, .null, .null, .int 0, .int 0, .int 0, .int 0, .null, .null, .null, .null, .null, .null, .null, .int 0, .null, .null, .null, .null, .null, .null, .int 0, .null, .null, .null, .null, .null, .int 0, .int 0, .int 0, .int 0, .null, .null, .null, .null, .null]) else kw_150.2 i)
def kw_152 : kbPW := (65, fun i => if i = 64 then .inl (0, 20, (fun _ => none)) else kw_151.2 i)
def kw_153 : kbPW := (65, fun i => if i = 57 then .inr (11, [.ref 58, .ref 59, .ref 60, .int 0, .ref 61, .ref 62, .ref 63, .ref 64, .null, .null, .null, .null, .null, .int 0, .int 0, .int 0, .int 0, .int 0, .int 0, .int 0, .int 0, .int 0, .int 0, .null, .null, .null, .null, .int 0, .int 0, .int 0, .int 0, .null, .null, .null, .null, .null, .null, .null, .int 0, .null, .null, .null, .null, .null, .null, .int 0, .null, .null, .null, .null, .null, .int 0, .int 0, .int 0, .int 0, .null, .null, .null, .null, .null]) else kw_152.2 i)
def kw_154 : kbPW := (66, fun i => if i = 65 then .inl (0, 12, (fun _ => none)) else kw_153.2 i)
def kw_155 : kbPW := (66, fun i => if i = 57 then .inr (11, [.ref 58, .ref 59, .ref 60, .int 0, .ref 61, .ref 62, .ref 63, .ref 64, .ref 65, .null, .null, .null, .null, .int 0, .int 0, .int 0, .int 0, .int 0, .int 0, .int 0, .int 0, .int 0, .int 0, .null, .null, .null, .null, .int 0, .int 0, .int 0, .int 0, .null, .null, .null, .null, .null, .null, .null, .int 0, .null, .null, .null, .null, .null, .null, .int 0, .null, .null, .null, .null, .null, .int 0, .int 0, .int 0, .int 0, .null, .null, .null, .null, .null]) else kw_154.2 i)
def kw_156 : kbPW := (67, fun i => if i = 66 then .inl (0, 12, (fun _ => none)) else kw_155.2 i)
def kw_157 : kbPW := (67, fun i => if i = 57 then .inr (11, [.ref 58, .ref 59, .ref 60, .int 0, .ref 61, .ref 62, .ref 63, .ref 64, .ref 65, .ref 66, .null, .null, .null, .int 0, .int 0, .int 0, .int 0, .int 0, .int 0, .int 0, .int 0, .int 0, .int 0, .null, .null, .null, .null, .int 0, .int 0, .int 0, .int 0, .null, .null, .null, .null, .null, .null, .null, .int 0, .null, .null, .null, .null, .null, .null, .int 0, .null, .null, .null, .null, .null, .int 0, .int 0, .int 0, .int 0, .null, .null, .null, .null, .null]) else kw_156.2 i)
def kw_158 : kbPW := (68, fun i => if i = 67 then .inl (0, 1200, (fun _ => none)) else kw_157.2 i)
def kw_159 : kbPW := (68, fun i => if i = 57 then .inr (11, [.ref 58, .ref 59, .ref 60, .int 0, .ref 61, .ref 62, .ref 63, .ref 64, .ref 65, .ref 66, .ref 67, .null, .null, .int 0, .int 0, .int 0, .int 0, .int 0, .int 0, .int 0, .int 0, .int 0, .int 0, .null, .null, .null, .null, .int 0, .int 0, .int 0, .int 0, .null, .null, .null, .null, .null, .null, .null, .int 0, .null, .null, .null, .null, .null, .null, .int 0, .null, .null, .null, .null, .null, .int 0, .int 0, .int 0, .int 0, .null, .null, .null, .null, .null]) else kw_158.2 i)
def kw_160 : kbPW := (69, fun i => if i = 68 then .inl (0, 3, (fun _ => none)) else kw_159.2 i)
def kw_161 : kbPW := (69, fun i => if i = 57 then .inr (11, [.ref 58, .ref 59, .ref 60, .int 0, .ref 61, .ref 62, .ref 63, .ref 64, .ref 65, .ref 66, .ref 67, .ref 68, .null, .int 0, .int 0, .int 0, .int 0, .int 0, .int 0, .int 0, .int 0, .int 0, .int 0, .null, .null, .null, .null, .int 0, .int 0, .int 0, .int 0, .null, .null, .null, .null, .null, .null, .null, .int 0, .null, .null, .null, .null, .null, .null, .int 0, .null, .null, .null, .null, .null, .int 0, .int 0, .int 0, .int 0, .null, .null, .null, .null, .null]) else kw_160.2 i)
def kw_162 : kbPW := (70, fun i => if i = 69 then .inl (0, 600, (fun _ => none)) else kw_161.2 i)
def kw_163 : kbPW := (70, fun i => if i = 57 then .inr (11, [.ref 58, .ref 59, .ref 60, .int 0, .ref 61, .ref 62, .ref 63, .ref 64, .ref 65, .ref 66, .ref 67, .ref 68, .ref 69, .int 0, .int 0, .int 0, .int 0, .int 0, .int 0, .int 0, .int 0, .int 0, .int 0, .null, .null, .null, .null, .int 0, .int 0, .int 0, .int 0, .null, .null, .null, .null, .null, .null, .null, .int 0, .null, .null, .null, .null, .null, .null, .int 0, .null, .null, .null, .null, .null, .int 0, .int 0, .int 0, .int 0, .null, .null, .null, .null, .null]) else kw_162.2 i)
def kw_164 : kbPW := (70, fun i => if i = 57 then .inr (11, [.ref 58, .ref 59, .ref 60, .int 0, .ref 61, .ref 62, .ref 63, .ref 64, .ref 65, .ref 66, .ref 67, .ref 68, .ref 69, .int 0, .int 0, .int 0, .int 0, .int 0, .int 0, .int 0, .int 0, .int 0, .int (-1), .null, .null, .null, .null, .int 0, .int 0, .int 0, .int 0, .null, .null, .null, .null, .null, .null, .null, .int 0, .null, .null, .null, .null, .null, .null, .int 0, .null, .null, .null, .null, .null, .int 0, .int 0, .int 0, .int 0, .null, .null, .null, .null, .null]) else kw_163.2 i)
def kw_165 : kbPW := (71, fun i => if i = 70 then .inl (0, 10, (fun _ => none)) else kw_164.2 i)
def kw_166 : kbPW := (71, fun i => if i = 57 then .inr (11, [.ref 58, .ref 59, .ref 60, .int 0, .ref 61, .ref 62, .ref 63, .ref 64, .ref 65, .ref 66, .ref 67, .ref 68, .ref 69, .int 0, .int 0, .int 0, .int 0, .int 0, .int 0, .int 0, .int 0, .int 0, .int (-1), .ref 70, .null, .null, .null, .int 0, .int 0, .int 0, .int 0, .null, .null, .null, .null, .null, .null, .null, .int 0, .null, .null, .null, .null, .null, .null, .int 0, .null, .null, .null, .null, .null, .int 0, .int 0, .int 0, .int 0, .null, .null, .null, .null, .null]) else kw_165.2 i)
def kw_167 : kbPW := (72, fun i => if i = 71 then .inl (0, 10, (fun _ => none)) else kw_166.2 i)
def kw_168 : kbPW := (72, fun i => if i = 57 then .inr (11, [.ref 58, .ref 59, .ref 60, .int 0, .ref 61, .ref 62, .ref 63, .ref 64, .ref 65, .ref 66, .ref 67, .ref 68, .ref 69, .int 0, .int 0, .int 0, .int 0, .int 0, .int 0, .int 0, .int 0, .int 0, .int (-1), .ref 70, .ref 71, .null, .null, .int 0, .int 0, .int 0, .int 0, .null, .null, .null, .null, .null, .null, .null, .int 0, .null, .null, .null, .null, .null, .null, .int 0, .null, .null, .null, .null, .null, .int 0, .int 0, .int 0, .int 0, .null, .null, .null, .null, .null]) else kw_167.2 i)
def kw_169 : kbPW := (73, fun i => if i = 72 then .inl (0, 10, (fun _ => none)) else kw_168.2 i)
def kw_170 : kbPW := (73, fun i => if i = 57 then .inr (11, [.ref 58, .ref 59, .ref 60, .int 0, .ref 61, .ref 62, .ref 63, .ref 64, .ref 65, .ref 66, .ref 67, .ref 68, .ref 69, .int 0, .int 0, .int 0, .int 0, .int 0, .int 0, .int 0, .int 0, .int 0, .int (-1), .ref 70, .ref 71, .ref 72, .null, .int 0, .int 0, .int 0, .int 0, .null, .null, .null, .null, .null, .null, .null, .int 0, .null, .null, .null, .null, .null, .null, .int 0, .null, .null, .null, .null, .null, .int 0, .int 0, .int 0, .int 0, .null, .null, .null, .null, .null]) else kw_169.2 i)
def kw_171 : kbPW := (74, fun i => if i = 73 then .inl (0, 1280, (fun _ => none)) else kw_170.2 i)
def kw_172 : kbPW := (74, fun i => if i = 57 then .inr (11, [.ref 58, .ref 59, .ref 60, .int 0, .ref 61, .ref 62, .ref 63, .ref 64, .ref 65, .ref 66, .ref 67, .ref 68, .ref 69, .int 0, .int 0, .int 0, .int 0, .int 0, .int 0, .int 0, .int 0, .int 0, .int (-1), .ref 70, .ref 71, .ref 72, .ref 73, .int 0, .int 0, .int 0, .int 0, .null, .null, .null, .null, .null, .null, .null, .int 0, .null, .null, .null, .null, .null, .null, .int 0, .null, .null, .null, .null, .null, .int 0, .int 0, .int 0, .int 0, .null, .null, .null, .null, .null]) else kw_171.2 i)
def kw_173 : kbPW := (75, fun i => if i = 74 then .inl (0, 6, (fun _ => none)) else kw_172.2 i)
def kw_174 : kbPW := (75, fun i => if i = 57 then .inr (11, [.ref 58, .ref 59, .ref 60, .int 0, .ref 61, .ref 62, .ref 63, .ref 64, .ref 65, .ref 66, .ref 67, .ref 68, .ref 69, .int 0, .int 0, .int 0, .int 0, .int 0, .int 0, .int 0, .int 0, .int 0, .int (-1), .ref 70, .ref 71, .ref 72, .ref 73, .int 0, .int 0, .int 0, .int 0, .ref 74, .null, .null, .null, .null, .null, .null, .int 0, .null, .null, .null, .null, .null, .null, .int 0, .null, .null, .null, .null, .null, .int 0, .int 0, .int 0, .int 0, .null, .null, .null, .null, .null]) else kw_173.2 i)
def kw_175 : kbPW := (76, fun i => if i = 75 then .inl (0, 64, (fun _ => none)) else kw_174.2 i)
def kw_176 : kbPW := (76, fun i => if i = 57 then .inr (11, [.ref 58, .ref 59, .ref 60, .int 0, .ref 61, .ref 62, .ref 63, .ref 64, .ref 65, .ref 66, .ref 67, .ref 68, .ref 69, .int 0, .int 0, .int 0, .int 0, .int 0, .int 0, .int 0, .int 0, .int 0, .int (-1), .ref 70, .ref 71, .ref 72, .ref 73, .int 0, .int 0, .int 0, .int 0, .ref 74, .ref 75, .null, .null, .null, .null, .null, .int 0, .null, .null, .null, .null, .null, .null, .int 0, .null, .null, .null, .null, .null, .int 0, .int 0, .int 0, .int 0, .null, .null, .null, .null, .null]) else kw_175.2 i)
def kw_177 : kbPW := (77, fun i => if i = 76 then .inl (0, 12, (fun _ => none)) else kw_176.2 i)
def kw_178 : kbPW := (77, fun i => if i = 57 then .inr (11, [.ref 58, .ref 59, .ref 60, .int 0, .ref 61, .ref 62, .ref 63, .ref 64, .ref 65, .ref 66, .ref 67, .ref 68, .ref 69, .int 0, .int 0, .int 0, .int 0, .int 0, .int 0, .int 0, .int 0, .int 0, .int (-1), .ref 70, .ref 71, .ref 72, .ref 73, .int 0, .int 0, .int 0, .int 0, .ref 74, .ref 75, .ref 76, .null, .null, .null, .null, .int 0, .null, .null, .null, .null, .null, .null, .int 0, .null, .null, .null, .null, .null, .int 0, .int 0, .int 0, .int 0, .null, .null, .null, .null, .null]) else kw_177.2 i)
def kw_179 : kbPW := (78, fun i => if i = 77 then .inl (0, 143, (fun _ => none)) else kw_178.2 i)
def kw_180 : kbPW := (78, fun i => if i = 57 then .inr (11, [.ref 58, .ref 59, .ref 60, .int 0, .ref 61, .ref 62, .ref 63, .ref 64, .ref 65, .ref 66, .ref 67, .ref 68, .ref 69, .int 0, .int 0, .int 0, .int 0, .int 0, .int 0, .int 0, .int 0, .int 0, .int (-1), .ref 70, .ref 71, .ref 72, .ref 73, .int 0, .int 0, .int 0, .int 0, .ref 74, .ref 75, .ref 76, .ref 77, .null, .null, .null, .int 0, .null, .null, .null, .null, .null, .null, .int 0, .null, .null, .null, .null, .null, .int 0, .int 0, .int 0, .int 0, .null, .null, .null, .null, .null]) else kw_179.2 i)
def kw_181 : kbPW := (79, fun i => if i = 78 then .inl (0, 60, (fun _ => none)) else kw_180.2 i)
def kw_182 : kbPW := (79, fun i => if i = 57 then .inr (11, [.ref 58, .ref 59, .ref 60, .int 0, .ref 61, .ref 62, .ref 63, .ref 64, .ref 65, .ref 66, .ref 67, .ref 68, .ref 69, .int 0, .int 0, .int 0, .int 0, .int 0, .int 0, .int 0, .int 0, .int 0, .int (-1), .ref 70, .ref 71, .ref 72, .ref 73, .int 0, .int 0, .int 0, .int 0, .ref 74, .ref 75, .ref 76, .ref 77, .ref 78, .null, .null, .int 0, .null, .null, .null, .null, .null, .null, .int 0, .null, .null, .null, .null, .null, .int 0, .int 0, .int 0, .int 0, .null, .null, .null, .null, .null]) else kw_181.2 i)
def kw_183 : kbPW := (80, fun i => if i = 79 then .inl (0, 10, (fun _ => none)) else kw_182.2 i)
def kw_184 : kbPW := (80, fun i => if i = 57 then .inr (11, [.ref 58, .ref 59, .ref 60, .int 0, .ref 61, .ref 62, .ref 63, .ref 64, .ref 65, .ref 66, .ref 67, .ref 68, .ref 69, .int 0, .int 0, .int 0, .int 0, .int 0, .int 0, .int 0, .int 0, .int 0, .int (-1), .ref 70, .ref 71, .ref 72, .ref 73, .int 0, .int 0, .int 0, .int 0, .ref 74, .ref 75, .ref 76, .ref 77, .ref 78, .ref 79, .null, .int 0, .null, .null, .null, .null, .null, .null, .int 0, .null, .null, .null, .null, .null, .int 0, .int 0, .int 0, .int 0, .null, .null, .null, .null, .null]) else kw_183.2 i)
def kw_185 : kbPW := (81, fun i => if i = 80 then .inl (1, 143, (fun _ => none)) else kw_184.2 i)
def kw_186 : kbPW := (81, fun i => if i = 57 then .inr (11, [.ref 58, .ref 59, .ref 60, .int 0, .ref 61, .ref 62, .ref 63, .ref 64, .ref 65, .ref 66, .ref 67, .ref 68, .ref 69, .int 0, .int 0, .int 0, .int 0, .int 0, .int 0, .int 0, .int 0, .int 0, .int (-1), .ref 70, .ref 71, .ref 72, .ref 73, .int 0, .int 0, .int 0, .int 0, .ref 74, .ref 75, .ref 76, .ref 77, .ref 78, .ref 79, .ref 80, .int 0, .null, .null, .null, .null, .null, .null, .int 0, .null, .null, .null, .null, .null, .int 0, .int 0, .int 0, .int 0, .null, .null, .null, .null, .null]) else kw_185.2 i)
def kw_187 : kbPW := (82, fun i => if i = 81 then .inl (0, 169, (fun _ => none)) else kw_186.2 i)
def kw_188 : kbPW := (82, fun i => if i = 57 then .inr (11, [.ref 58, .ref 59, .ref 60, .int 0, .ref 61, .ref 62, .ref 63, .ref 64, .ref 65, .ref 66, .ref 67, .ref 68, .ref 69, .int 0, .int 0, .int 0, .int 0, .int 0, .int 0, .int 0, .int 0, .int 0, .int (-1), .ref 70, .ref 71, .ref 72, .ref 73, .int 0, .int 0, .int 0, .int 0, .ref 74, .ref 75, .ref 76, .ref 77, .ref 78, .ref 79, .ref 80, .int 0, .ref 81, .null, .null, .null, .null, .null, .int 0, .null, .null, .null, .null, .null, .int 0, .int 0, .int 0, .int 0, .null, .null, .null, .null, .null]) else kw_187.2 i)
def kw_189 : kbPW := (83, fun i => if i = 82 then .inl (0, 12, (fun _ => none)) else kw_188.2 i)
def kw_190 : kbPW := (83, fun i => if i = 57 then .inr (11, [.ref 58, .ref 59, .ref 60, .int 0, .ref 61, .ref 62, .ref 63, .ref 64, .ref 65, .ref 66, .ref 67, .ref 68, .ref 69, .int 0, .int 0, .int 0, .int 0, .int 0, .int 0, .int 0, .int 0, .int 0, .int (-1), .ref 70, .ref 71, .ref 72, .ref 73, .int 0, .int 0, .int 0, .int 0, .ref 74, .ref 75, .ref 76, .ref 77, .ref 78, .ref 79, .ref 80, .int 0, .ref 81, .ref 82, .null, .null, .null, .null, .int 0, .null, .null, .null, .null, .null, .int 0, .int 0, .int 0, .int 0, .null, .null, .null, .null, .null]) else kw_189.2 i)
def kw_191 : kbPW := (84, fun i => if i = 83 then .inl (0, 12, (fun _ => none)) else kw_190.2 i)
def kw_192 : kbPW := (84, fun i => if i = 57 then .inr (11, [.ref 58, .ref 59, .ref 60, .int 0, .ref 61, .ref 62, .ref 63, .ref 64, .ref 65, .ref 66, .ref 67, .ref 68, .ref 69, .int 0, .int 0, .int 0, .int 0, .int 0, .int 0, .int 0, .int 0, .int 0, .int (-1), .ref 70, .ref 71, .ref 72, .ref 73, .int 0, .int 0, .int 0, .int 0, .ref 74, .ref 75, .ref 76, .ref 77, .ref 78, .ref 79, .ref 80, .int 0, .ref 81, .ref 82, .ref 83, .null, .null, .null, .int 0, .null, .null, .null, .null, .null, .int 0, .int 0, .int 0, .int 0, .null, .null, .null, .null, .null]) else kw_191.2 i)
def kw_193 : kbPW := (85, fun i => if i = 84 then .inl (0, 70, (fun _ => none)) else kw_192.2 i)
def kw_194 : kbPW := (85, fun i => if i = 57 then .inr (11, [.ref 58, .ref 59, .ref 60, .int 0, .ref 61, .ref 62, .ref 63, .ref 64, .ref 65, .ref 66, .ref 67, .ref 68, .ref 69, .int 0, .int 0, .int 0, .int 0, .int 0, .int 0, .int 0, .int 0, .int 0, .int (-1), .ref 70, .ref 71, .ref 72, .ref 73, .int 0, .int 0, .int 0, .int 0, .ref 74, .ref 75, .ref 76, .ref 77, .ref 78, .ref 79, .ref 80, .int 0, .ref 81, .ref 82, .ref 83, .ref 84, .null, .null, .int 0, .null, .null, .null, .null, .null, .int 0, .int 0, .int 0, .int 0, .null, .null, .null, .null, .null]) else kw_193.2 i)
def kw_195 : kbPW := (86, fun i => if i = 85 then .inl (0, 70, (fun _ => none)) else kw_194.2 i)
def kw_196 : kbPW := (86, fun i => if i = 57 then .inr (11, [.ref 58, .ref 59, .ref 60, .int 0, .ref 61, .ref 62, .ref 63, .ref 64, .ref 65, .ref 66, .ref 67, .ref 68, .ref 69, .int 0, .int 0, .int 0, .int 0, .int 0, .int 0, .int 0, .int 0, .int 0, .int (-1), .ref 70, .ref 71, .ref 72, .ref 73, .int 0, .int 0, .int 0, .int 0, .ref 74, .ref 75, .ref 76, .ref 77, .ref 78, .ref 79, .ref 80, .int 0, .ref 81, .ref 82, .ref 83, .ref 84, .ref 85, .null, .int 0, .null, .null, .null, .null, .null, .int 0, .int 0, .int 0, .int 0, .null, .null, .null, .null, .null]) else kw_195.2 i)
def kw_197 : kbPW := (87, fun i => if i = 86 then .inl (0, 3125, (fun _ => none)) else kw_196.2 i)
def kw_198 : kbPW := (87, fun i => if i = 57 then .inr (11, [.ref 58, .ref 59, .ref 60, .int 0, .ref 61, .ref 62, .ref 63, .ref 64, .ref 65, .ref 66, .ref 67, .ref 68, .ref 69, .int 0, .int 0, .int 0, .int 0, .int 0, .int 0, .int 0, .int 0, .int 0, .int (-1), .ref 70, .ref 71, .ref 72, .ref 73, .int 0, .int 0, .int 0, .int 0, .ref 74, .ref 75, .ref 76, .ref 77, .ref 78, .ref 79, .ref 80, .int 0, .ref 81, .ref 82, .ref 83, .ref 84, .ref 85, .ref 86, .int 0, .null, .null, .null, .null, .null, .int 0, .int 0, .int 0, .int 0, .null, .null, .null, .null, .null]) else kw_197.2 i)
def kw_199 : kbPW := (88, fun i => if i = 87 then .inl (0, 130, (fun _ => none)) else kw_198.2 i)
def kw_200 : kbPW := (88, fun i => if i = 57 then .inr (11, [.ref 58, .ref 59, .ref 60, .int 0, .ref 61, .ref 62, .ref 63, .ref 64, .ref 65, .ref 66, .ref 67, .ref 68, .ref 69, .int 0, .int 0, .int 0, .int 0, .int 0, .int 0, .int 0, .int 0, .int 0, .int (-1), .ref 70, .ref 71, .ref 72, .ref 73, .int 0, .int 0, .int 0, .int 0, .ref 74, .ref 75, .ref 76, .ref 77, .ref 78, .ref 79, .ref 80, .int 0, .ref 81, .ref 82, .ref 83, .ref 84, .ref 85, .ref 86, .int 0, .ref 87, .null, .null, .null, .null, .int 0, .int 0, .int 0, .int 0, .null, .null, .null, .null, .null]) else kw_199.2 i)
def kw_201 : kbPW := (89, fun i => if i = 88 then .inl (1, 130, (fun _ => none)) else kw_200.2 i)
def kw_202 : kbPW := (89, fun i => if i = 57 then .inr (11, [.ref 58, .ref 59, .ref 60, .int 0, .ref 61, .ref 62, .ref 63, .ref 64, .ref 65, .ref 66, .ref 67, .ref 68, .ref 69, .int 0, .int 0, .int 0, .int 0, .int 0, .int 0, .int 0, .int 0, .int 0, .int (-1), .ref 70, .ref 71, .ref 72, .ref 73, .int 0, .int 0, .int 0, .int 0, .ref 74, .ref 75, .ref 76, .ref 77, .ref 78, .ref 79, .ref 80, .int 0, .ref 81, .ref 82, .ref 83, .ref 84, .ref 85, .ref 86, .int 0, .ref 87, .ref 88, .null, .null, .null, .int 0, .int 0, .int 0, .int 0, .null, .null, .null, .null, .null]) else kw_201.2 i)
def kw_203 : kbPW := (90, fun i => if i = 89 then .inl (0, 8, (fun _ => none)) else kw_202.2 i)
def kw_204 : kbPW := (90, fun i => if i = 57 then .inr (11, [.ref 58, .ref 59, .ref 60, .int 0, .ref 61, .ref 62, .ref 63, .ref 64, .ref 65, .ref 66, .ref 67, .ref 68, .ref 69, .int 0, .int 0, .int 0, .int 0, .int 0, .int 0, .int 0, .int 0, .int 0, .int (-1), .ref 70, .ref 71, .ref 72, .ref 73, .int 0, .int 0, .int 0, .int 0, .ref 74, .ref 75, .ref 76, .ref 77, .ref 78, .ref 79, .ref 80, .int 0, .ref 81, .ref 82, .ref 83, .ref 84, .ref 85, .ref 86, .int 0, .ref 87, .ref 88, .ref 89, .null, .null, .int 0, .int 0, .int 0, .int 0, .null, .null, .null, .null, .null]) else kw_203.2 i)
def kw_205 : kbPW := (91, fun i => if i = 90 then .inl (0, 8, (fun _ => none)) else kw_204.2 i)
def kw_206 : kbPW := (91, fun i => if i = 57 then .inr (11, [.ref 58, .ref 59, .ref 60, .int 0, .ref 61, .ref 62, .ref 63, .ref 64, .ref 65, .ref 66, .ref 67, .ref 68, .ref 69, .int 0, .int 0, .int 0, .int 0, .int 0, .int 0, .int 0, .int 0, .int 0, .int (-1), .ref 70, .ref 71, .ref 72, .ref 73, .int 0, .int 0, .int 0, .int 0, .ref 74, .ref 75, .ref 76, .ref 77, .ref 78, .ref 79, .ref 80, .int 0, .ref 81, .ref 82, .ref 83, .ref 84, .ref 85, .ref 86, .int 0, .ref 87, .ref 88, .ref 89, .ref 90, .null, .int 0, .int 0, .int 0, .int 0, .null, .null, .null, .null, .null]) else kw_205.2 i)
def kw_207 : kbPW := (92, fun i => if i = 91 then .inl (0, 20, (fun _ => none)) else kw_206.2 i)
def kw_208 : kbPW := (92, fun i => if i = 57 then .inr (11, [.ref 58, .ref 59, .ref 60, .int 0, .ref 61, .ref 62, .ref 63, .ref 64, .ref 65, .ref 66, .ref 67, .ref 68, .ref 69, .int 0, .int 0, .int 0, .int 0, .int 0, .int 0, .int 0, .int 0, .int 0, .int (-1), .ref 70, .ref 71, .ref 72, .ref 73, .int 0, .int 0, .int 0, .int 0, .ref 74, .ref 75, .ref 76, .ref 77, .ref 78, .ref 79, .ref 80, .int 0, .ref 81, .ref 82, .ref 83, .ref 84, .ref 85, .ref 86, .int 0, .ref 87, .ref 88, .ref 89, .ref 90, .ref 91, .int 0, .int 0, .int 0, .int 0, .null, .null, .null, .null, .null]) else kw_207.2 i)
def kw_209 : kbPW := (93, fun i => if i = 92 then .inl (0, 32, (fun _ => none)) else kw_208.2 i)
def kw_210 : kbPW := (93, fun i => if i = 57 then .inr (11, [.ref 58, .ref 59, .ref 60, .int 0, .ref 61, .ref 62, .ref 63, .ref 64, .ref 65, .ref 66, .ref 67, .ref 68, .ref 69, .int 0, .int 0, .int 0, .int 0, .int 0, .int 0, .int 0, .int 0, .int 0, .int (-1), .ref 70, .ref 71, .ref 72, .ref 73, .int 0, .int 0, .int 0, .int 0, .ref 74, .ref 75, .ref 76, .ref 77, .ref 78, .ref 79, .ref 80, .int 0, .ref 81, .ref 82, .ref 83, .ref 84, .ref 85, .ref 86, .int 0, .ref 87, .ref 88, .ref 89, .ref 90, .ref 91, .int 0, .int 0, .int 0, .int 0, .ref 92, .null, .null, .null, .null]) else kw_209.2 i)
def kw_211 : kbPW := (94, fun i => if i = 93 then .inl (0, 1280, (fun _ => none)) else kw_210.2 i)
def kw_212 : kbPW := (94, fun i => if i = 57 then .inr (11, [.ref 58, .ref 59, .ref 60, .int 0, .ref 61, .ref 62, .ref 63, .ref 64, .ref 65, .ref 66, .ref 67, .ref 68, .ref 69, .int 0, .int 0, .int 0, .int 0, .int 0, .int 0, .int 0, .int 0, .int 0, .int (-1), .ref 70, .ref 71, .ref 72, .ref 73, .int 0, .int 0, .int 0, .int 0, .ref 74, .ref 75, .ref 76, .ref 77, .ref 78, .ref 79, .ref 80, .int 0, .ref 81, .ref 82, .ref 83, .ref 84, .ref 85, .ref 86, .int 0, .ref 87, .ref 88, .ref 89, .ref 90, .ref 91, .int 0, .int 0, .int 0, .int 0, .ref 92, .ref 93, .null, .null, .null]) else kw_211.2 i)
def kw_213 : kbPW := (95, fun i => if i = 94 then .inl (0, 8, (fun _ => none)) else kw_212.2 i)
def kw_214 : kbPW := (95, fun i => if i = 57 then .inr (11, [.ref 58, .ref 59, .ref 60, .int 0, .ref 61, .ref 62, .ref 63, .ref 64, .ref 65, .ref 66, .ref 67, .ref 68, .ref 69, .int 0, .int 0, .int 0, .int 0, .int 0, .int 0, .int 0, .int 0, .int 0, .int (-1), .ref 70, .ref 71, .ref 72, .ref 73, .int 0, .int 0, .int 0, .int 0, .ref 74, .ref 75, .ref 76, .ref 77, .ref 78, .ref 79, .ref 80, .int 0, .ref 81, .ref 82, .ref 83, .ref 84, .ref 85, .ref 86, .int 0, .ref 87, .ref 88, .ref 89, .ref 90, .ref 91, .int 0, .int 0, .int 0, .int 0, .ref 92, .ref 93, .ref 94, .null, .null]) else kw_213.2 i)
def kw_215 : kbPW := (96, fun i => if i = 95 then .inl (0, 8, (fun _ => none)) else kw_214.2 i)
def kw_216 : kbPW := (96, fun i => if i = 57 then .inr (11, [.ref 58, .ref 59, .ref 60, .int 0, .ref 61, .ref 62, .ref 63, .ref 64, .ref 65, .ref 66, .ref 67, .ref 68, .ref 69, .int 0, .int 0, .int 0, .int 0, .int 0, .int 0, .int 0, .int 0, .int 0, .int (-1), .ref 70, .ref 71, .ref 72, .ref 73, .int 0, .int 0, .int 0, .int 0, .ref 74, .ref 75, .ref 76, .ref 77, .ref 78, .ref 79, .ref 80, .int 0, .ref 81, .ref 82, .ref 83, .ref 84, .ref 85, .ref 86, .int 0, .ref 87, .ref 88, .ref 89, .ref 90, .ref 91, .int 0, .int 0, .int 0, .int 0, .ref 92, .ref 93, .ref 94, .ref 95, .null]) else kw_215.2 i)
def kw_217 : kbPW := (97, fun i => if i = 96 then .inl (0, 3, (fun _ => none)) else kw_216.2 i)
def kw_218 : kbPW := (97, fun i => if i = 57 then .inr (11, [.ref 58, .ref 59, .ref 60, .int 0, .ref 61, .ref 62, .ref 63, .ref 64, .ref 65, .ref 66, .ref 67, .ref 68, .ref 69, .int 0, .int 0, .int 0, .int 0, .int 0, .int 0, .int 0, .int 0, .int 0, .int (-1), .ref 70, .ref 71, .ref 72, .ref 73, .int 0, .int 0, .int 0, .int 0, .ref 74, .ref 75, .ref 76, .ref 77, .ref 78, .ref 79, .ref 80, .int 0, .ref 81, .ref 82, .ref 83, .ref 84, .ref 85, .ref 86, .int 0, .ref 87, .ref 88, .ref 89, .ref 90, .ref 91, .int 0, .int 0, .int 0, .int 0, .ref 92, .ref 93, .ref 94, .ref 95, .ref 96]) else kw_217.2 i)
def kw_219 : kbPW := (98, fun i => if i = 97 then .inl (1, 1, (fun _ => none)) else kw_218.2 i)
theorem zc_WO_3 {l : Launch} : kbSZ l MX10_init 1 4 40 [.ref 3] kw_5 kw_13 := by
  refine kb_enterZ 0 rfl rfl (by decide) ?_
  refine z_aload_n dX10_init_0 rfl ?_
  refine z_obj obX10_3 ob_i ob_c dX10_init_1 (Nat.le_of_ble_eq_true rfl) (Nat.le_of_ble_eq_true rfl) ?_
  refine z_aload_n dX10_init_4 rfl ?_
  refine z_bipush 10 dX10_init_5 (by decide) ?_
  refine z_newa (N := 10) (w' := kw_6) (Or.inl ⟨rfl, rfl⟩) ac_int (by decide) (by decide) rfl (Nat.le_of_ble_eq_true rfl) (by decide) (Nat.le_of_ble_eq_true rfl) (Nat.le_of_ble_eq_true rfl) dX10_init_7 ?_
  refine z_put (w' := kw_7) fpX10_9 (Nat.le_of_ble_eq_true rfl) rfl (Nat.le_of_ble_eq_true rfl) rfl (fun E => ⟨rfl, rfl⟩) (Nat.le_of_ble_eq_true rfl) rfl dX10_init_9 ?_
  refine z_aload_n dX10_init_12 rfl ?_
  refine z_bipush 10 dX10_init_13 (by decide) ?_
  refine z_newa (N := 10) (w' := kw_8) (Or.inl ⟨rfl, rfl⟩) ac_int (by decide) (by decide) rfl (Nat.le_of_ble_eq_true rfl) (by decide) (Nat.le_of_ble_eq_true rfl) (Nat.le_of_ble_eq_true rfl) dX10_init_15 ?_
  refine z_put (w' := kw_9) fpX10_15 (Nat.le_of_ble_eq_true rfl) rfl (Nat.le_of_ble_eq_true rfl) rfl (fun E => ⟨rfl, rfl⟩) (Nat.le_of_ble_eq_true rfl) rfl dX10_init_17 ?_
  refine z_aload_n dX10_init_20 rfl ?_
  refine z_bipush 10 dX10_init_21 (by decide) ?_
  refine z_newa (N := 10) (w' := kw_10) (Or.inl ⟨rfl, rfl⟩) ac_int (by decide) (by decide) rfl (Nat.le_of_ble_eq_true rfl) (by decide) (Nat.le_of_ble_eq_true rfl) (Nat.le_of_ble_eq_true rfl) dX10_init_23 ?_
  refine z_put (w' := kw_11) fpX10_18 (Nat.le_of_ble_eq_true rfl) rfl (Nat.le_of_ble_eq_true rfl) rfl (fun E => ⟨rfl, rfl⟩) (Nat.le_of_ble_eq_true rfl) rfl dX10_init_25 ?_
  refine z_aload_n dX10_init_28 rfl ?_
  refine z_bipush 10 dX10_init_29 (by decide) ?_
  refine z_newa (N := 10) (w' := kw_12) (Or.inl ⟨rfl, rfl⟩) ac_int (by decide) (by decide) rfl (Nat.le_of_ble_eq_true rfl) (by decide) (Nat.le_of_ble_eq_true rfl) (Nat.le_of_ble_eq_true rfl) dX10_init_31 ?_
  refine z_put (w' := kw_13) fpX10_21 (Nat.le_of_ble_eq_true rfl) rfl (Nat.le_of_ble_eq_true rfl) rfl (fun E => ⟨rfl, rfl⟩) (Nat.le_of_ble_eq_true rfl) rfl dX10_init_33 ?_
  exact z_vret rfl (Nat.le_of_ble_eq_true rfl) (Nat.le_of_ble_eq_true rfl) dX10_init_36
theorem zc_DO_8 {l : Launch} : kbSZ l MX2_init 1 2 12 [.ref 8] kw_15 kw_19 := by
  refine kb_enterZ 0 rfl rfl (by decide) ?_
  refine z_aload_n dX2_init_0 rfl ?_
  refine z_obj obX2_3 ob_i ob_c dX2_init_1 (Nat.le_of_ble_eq_true rfl) (Nat.le_of_ble_eq_true rfl) ?_
  refine z_aload_n dX2_init_4 rfl ?_
  refine z_bipush 6 dX2_init_5 (by decide) ?_
  refine z_newa (N := 6) (w' := kw_16) (Or.inl ⟨rfl, rfl⟩) ac_int (by decide) (by decide) rfl (Nat.le_of_ble_eq_true rfl) (by decide) (Nat.le_of_ble_eq_true rfl) (Nat.le_of_ble_eq_true rfl) dX2_init_7 ?_
  refine z_put (w' := kw_17) fpX2_9 (Nat.le_of_ble_eq_true rfl) rfl (Nat.le_of_ble_eq_true rfl) rfl (fun E => ⟨rfl, rfl⟩) (Nat.le_of_ble_eq_true rfl) rfl dX2_init_9 ?_
  refine z_aload_n dX2_init_12 rfl ?_
  refine z_bipush 6 dX2_init_13 (by decide) ?_
  refine z_newa (N := 6) (w' := kw_18) (Or.inl ⟨rfl, rfl⟩) ac_int (by decide) (by decide) rfl (Nat.le_of_ble_eq_true rfl) (by decide) (Nat.le_of_ble_eq_true rfl) (Nat.le_of_ble_eq_true rfl) dX2_init_15 ?_
  refine z_put (w' := kw_19) fpX2_15 (Nat.le_of_ble_eq_true rfl) rfl (Nat.le_of_ble_eq_true rfl) rfl (fun E => ⟨rfl, rfl⟩) (Nat.le_of_ble_eq_true rfl) rfl dX2_init_17 ?_
  exact z_vret rfl (Nat.le_of_ble_eq_true rfl) (Nat.le_of_ble_eq_true rfl) dX2_init_20
theorem zc_BT_1 {l : Launch} : kbSZ l MX0_init 2 10 810 [.ref 1] kw_2 kw_23 := by
  refine kb_enterZ 0 rfl rfl (by decide) ?_
  refine z_aload_n dX0_init_0 rfl ?_
  refine z_obj obX0_3 ob_i ob_c dX0_init_1 (Nat.le_of_ble_eq_true rfl) (Nat.le_of_ble_eq_true rfl) ?_
  refine z_aload_n dX0_init_4 rfl ?_
  refine z_sipush 150 dX0_init_5 (by decide) ?_
  refine z_newa (N := 150) (w' := kw_3) (Or.inl ⟨rfl, rfl⟩) ac_int (by decide) (by decide) rfl (Nat.le_of_ble_eq_true rfl) (by decide) (Nat.le_of_ble_eq_true rfl) (Nat.le_of_ble_eq_true rfl) dX0_init_8 ?_
  refine z_put (w' := kw_4) fpX0_9 (Nat.le_of_ble_eq_true rfl) rfl (Nat.le_of_ble_eq_true rfl) rfl (fun E => ⟨rfl, rfl⟩) (Nat.le_of_ble_eq_true rfl) rfl dX0_init_10 ?_
  refine z_aload_n dX0_init_13 rfl ?_
  refine z_new (w' := kw_5) nwX0_15 rfl (Nat.le_of_ble_eq_true rfl) (Nat.le_of_ble_eq_true rfl) (Nat.le_of_ble_eq_true rfl) dX0_init_14 ?_
  refine z_dup dX0_init_17 ?_
  refine z_inv (w' := kw_13) ciX0_17 (zc_WO_3 (l := l)) rfl rfl (Nat.le_of_ble_eq_true rfl) ⟨(Nat.le_of_ble_eq_true rfl), (Nat.le_of_ble_eq_true rfl), (Nat.le_of_ble_eq_true rfl), (Nat.le_of_ble_eq_true rfl)⟩ dX0_init_18 ?_
  refine z_put (w' := kw_14) fpX0_18 (Nat.le_of_ble_eq_true rfl) rfl (Nat.le_of_ble_eq_true rfl) rfl (fun E => ⟨rfl, rfl⟩) (Nat.le_of_ble_eq_true rfl) rfl dX0_init_21 ?_
  refine z_aload_n dX0_init_24 rfl ?_
  refine z_new (w' := kw_15) nwX0_22 rfl (Nat.le_of_ble_eq_true rfl) (Nat.le_of_ble_eq_true rfl) (Nat.le_of_ble_eq_true rfl) dX0_init_25 ?_
  refine z_dup dX0_init_28 ?_
  refine z_inv (w' := kw_19) ciX0_24 (zc_DO_8 (l := l)) rfl rfl (Nat.le_of_ble_eq_true rfl) ⟨(Nat.le_of_ble_eq_true rfl), (Nat.le_of_ble_eq_true rfl), (Nat.le_of_ble_eq_true rfl), (Nat.le_of_ble_eq_true rfl)⟩ dX0_init_29 ?_
  refine z_put (w' := kw_20) fpX0_25 (Nat.le_of_ble_eq_true rfl) rfl (Nat.le_of_ble_eq_true rfl) rfl (fun E => ⟨rfl, rfl⟩) (Nat.le_of_ble_eq_true rfl) rfl dX0_init_32 ?_
  refine z_aload_n dX0_init_35 rfl ?_
  refine z_sipush 600 dX0_init_36 (by decide) ?_
  refine z_newa (N := 600) (w' := kw_21) (Or.inl ⟨rfl, rfl⟩) ac_int (by decide) (by decide) rfl (Nat.le_of_ble_eq_true rfl) (by decide) (Nat.le_of_ble_eq_true rfl) (Nat.le_of_ble_eq_true rfl) dX0_init_39 ?_
  refine z_put (w' := kw_22) fpX0_29 (Nat.le_of_ble_eq_true rfl) rfl (Nat.le_of_ble_eq_true rfl) rfl (fun E => ⟨rfl, rfl⟩) (Nat.le_of_ble_eq_true rfl) rfl dX0_init_41 ?_
  refine z_aload_n dX0_init_44 rfl ?_
  refine z_iconst (-1) dX0_init_45 (by decide) ?_
  refine z_put (w' := kw_23) fpX0_32 (Nat.le_of_ble_eq_true rfl) rfl (Nat.le_of_ble_eq_true rfl) rfl (fun E => ⟨rfl, rfl⟩) (Nat.le_of_ble_eq_true rfl) rfl dX0_init_46 ?_
  exact z_vret rfl (Nat.le_of_ble_eq_true rfl) (Nat.le_of_ble_eq_true rfl) dX0_init_49
theorem zc_WO_13 {l : Launch} : kbSZ l MX10_init 1 4 40 [.ref 13] kw_26 kw_34 := by
  refine kb_enterZ 0 rfl rfl (by decide) ?_
  refine z_aload_n dX10_init_0 rfl ?_
  refine z_obj obX10_3 ob_i ob_c dX10_init_1 (Nat.le_of_ble_eq_true rfl) (Nat.le_of_ble_eq_true rfl) ?_
  refine z_aload_n dX10_init_4 rfl ?_
  refine z_bipush 10 dX10_init_5 (by decide) ?_
  refine z_newa (N := 10) (w' := kw_27) (Or.inl ⟨rfl, rfl⟩) ac_int (by decide) (by decide) rfl (Nat.le_of_ble_eq_true rfl) (by decide) (Nat.le_of_ble_eq_true rfl) (Nat.le_of_ble_eq_true rfl) dX10_init_7 ?_
  refine z_put (w' := kw_28) fpX10_9 (Nat.le_of_ble_eq_true rfl) rfl (Nat.le_of_ble_eq_true rfl) rfl (fun E => ⟨rfl, rfl⟩) (Nat.le_of_ble_eq_true rfl) rfl dX10_init_9 ?_
  refine z_aload_n dX10_init_12 rfl ?_
  refine z_bipush 10 dX10_init_13 (by decide) ?_
  refine z_newa (N := 10) (w' := kw_29) (Or.inl ⟨rfl, rfl⟩) ac_int (by decide) (by decide) rfl (Nat.le_of_ble_eq_true rfl) (by decide) (Nat.le_of_ble_eq_true rfl) (Nat.le_of_ble_eq_true rfl) dX10_init_15 ?_
  refine z_put (w' := kw_30) fpX10_15 (Nat.le_of_ble_eq_true rfl) rfl (Nat.le_of_ble_eq_true rfl) rfl (fun E => ⟨rfl, rfl⟩) (Nat.le_of_ble_eq_true rfl) rfl dX10_init_17 ?_
  refine z_aload_n dX10_init_20 rfl ?_
  refine z_bipush 10 dX10_init_21 (by decide) ?_
  refine z_newa (N := 10) (w' := kw_31) (Or.inl ⟨rfl, rfl⟩) ac_int (by decide) (by decide) rfl (Nat.le_of_ble_eq_true rfl) (by decide) (Nat.le_of_ble_eq_true rfl) (Nat.le_of_ble_eq_true rfl) dX10_init_23 ?_
  refine z_put (w' := kw_32) fpX10_18 (Nat.le_of_ble_eq_true rfl) rfl (Nat.le_of_ble_eq_true rfl) rfl (fun E => ⟨rfl, rfl⟩) (Nat.le_of_ble_eq_true rfl) rfl dX10_init_25 ?_
  refine z_aload_n dX10_init_28 rfl ?_
  refine z_bipush 10 dX10_init_29 (by decide) ?_
  refine z_newa (N := 10) (w' := kw_33) (Or.inl ⟨rfl, rfl⟩) ac_int (by decide) (by decide) rfl (Nat.le_of_ble_eq_true rfl) (by decide) (Nat.le_of_ble_eq_true rfl) (Nat.le_of_ble_eq_true rfl) dX10_init_31 ?_
  refine z_put (w' := kw_34) fpX10_21 (Nat.le_of_ble_eq_true rfl) rfl (Nat.le_of_ble_eq_true rfl) rfl (fun E => ⟨rfl, rfl⟩) (Nat.le_of_ble_eq_true rfl) rfl dX10_init_33 ?_
  exact z_vret rfl (Nat.le_of_ble_eq_true rfl) (Nat.le_of_ble_eq_true rfl) dX10_init_36
theorem zc_ST_12 {l : Launch} : kbSZ l MX9_init 2 9 264 [.ref 12] kw_25 kw_43 := by
  refine kb_enterZ 0 rfl rfl (by decide) ?_
  refine z_aload_n dX9_init_0 rfl ?_
  refine z_obj obX9_3 ob_i ob_c dX9_init_1 (Nat.le_of_ble_eq_true rfl) (Nat.le_of_ble_eq_true rfl) ?_
  refine z_aload_n dX9_init_4 rfl ?_
  refine z_new (w' := kw_26) nwX9_9 rfl (Nat.le_of_ble_eq_true rfl) (Nat.le_of_ble_eq_true rfl) (Nat.le_of_ble_eq_true rfl) dX9_init_5 ?_
  refine z_dup dX9_init_8 ?_
  refine z_inv (w' := kw_34) ciX9_11 (zc_WO_13 (l := l)) rfl rfl (Nat.le_of_ble_eq_true rfl) ⟨(Nat.le_of_ble_eq_true rfl), (Nat.le_of_ble_eq_true rfl), (Nat.le_of_ble_eq_true rfl), (Nat.le_of_ble_eq_true rfl)⟩ dX9_init_9 ?_
  refine z_put (w' := kw_35) fpX9_12 (Nat.le_of_ble_eq_true rfl) rfl (Nat.le_of_ble_eq_true rfl) rfl (fun E => ⟨rfl, rfl⟩) (Nat.le_of_ble_eq_true rfl) rfl dX9_init_12 ?_
  refine z_aload_n dX9_init_15 rfl ?_
  refine z_sipush 200 dX9_init_16 (by decide) ?_
  refine z_newa (N := 200) (w' := kw_36) (Or.inl ⟨rfl, rfl⟩) ac_int (by decide) (by decide) rfl (Nat.le_of_ble_eq_true rfl) (by decide) (Nat.le_of_ble_eq_true rfl) (Nat.le_of_ble_eq_true rfl) dX9_init_19 ?_
  refine z_put (w' := kw_37) fpX9_18 (Nat.le_of_ble_eq_true rfl) rfl (Nat.le_of_ble_eq_true rfl) rfl (fun E => ⟨rfl, rfl⟩) (Nat.le_of_ble_eq_true rfl) rfl dX9_init_21 ?_
  refine z_aload_n dX9_init_24 rfl ?_
  refine z_bipush 8 dX9_init_25 (by decide) ?_
  refine z_newa (N := 8) (w' := kw_38) (Or.inl ⟨rfl, rfl⟩) ac_int (by decide) (by decide) rfl (Nat.le_of_ble_eq_true rfl) (by decide) (Nat.le_of_ble_eq_true rfl) (Nat.le_of_ble_eq_true rfl) dX9_init_27 ?_
  refine z_put (w' := kw_39) fpX9_22 (Nat.le_of_ble_eq_true rfl) rfl (Nat.le_of_ble_eq_true rfl) rfl (fun E => ⟨rfl, rfl⟩) (Nat.le_of_ble_eq_true rfl) rfl dX9_init_29 ?_
  refine z_aload_n dX9_init_32 rfl ?_
  refine z_bipush 8 dX9_init_33 (by decide) ?_
  refine z_newa (N := 8) (w' := kw_40) (Or.inl ⟨rfl, rfl⟩) ac_int (by decide) (by decide) rfl (Nat.le_of_ble_eq_true rfl) (by decide) (Nat.le_of_ble_eq_true rfl) (Nat.le_of_ble_eq_true rfl) dX9_init_35 ?_
  refine z_put (w' := kw_41) fpX9_25 (Nat.le_of_ble_eq_true rfl) rfl (Nat.le_of_ble_eq_true rfl) rfl (fun E => ⟨rfl, rfl⟩) (Nat.le_of_ble_eq_true rfl) rfl dX9_init_37 ?_
  refine z_aload_n dX9_init_40 rfl ?_
  refine z_iconst 3 dX9_init_41 (by decide) ?_
  refine z_newa (N := 3) (w' := kw_42) (Or.inl ⟨rfl, rfl⟩) ac_int (by decide) (by decide) rfl (Nat.le_of_ble_eq_true rfl) (by decide) (Nat.le_of_ble_eq_true rfl) (Nat.le_of_ble_eq_true rfl) dX9_init_42 ?_
  refine z_put (w' := kw_43) fpX9_28 (Nat.le_of_ble_eq_true rfl) rfl (Nat.le_of_ble_eq_true rfl) rfl (fun E => ⟨rfl, rfl⟩) (Nat.le_of_ble_eq_true rfl) rfl dX9_init_44 ?_
  exact z_vret rfl (Nat.le_of_ble_eq_true rfl) (Nat.le_of_ble_eq_true rfl) dX9_init_47
theorem zc_WO_23 {l : Launch} : kbSZ l MX10_init 1 4 40 [.ref 23] kw_46 kw_54 := by
  refine kb_enterZ 0 rfl rfl (by decide) ?_
  refine z_aload_n dX10_init_0 rfl ?_
  refine z_obj obX10_3 ob_i ob_c dX10_init_1 (Nat.le_of_ble_eq_true rfl) (Nat.le_of_ble_eq_true rfl) ?_
  refine z_aload_n dX10_init_4 rfl ?_
  refine z_bipush 10 dX10_init_5 (by decide) ?_
  refine z_newa (N := 10) (w' := kw_47) (Or.inl ⟨rfl, rfl⟩) ac_int (by decide) (by decide) rfl (Nat.le_of_ble_eq_true rfl) (by decide) (Nat.le_of_ble_eq_true rfl) (Nat.le_of_ble_eq_true rfl) dX10_init_7 ?_
  refine z_put (w' := kw_48) fpX10_9 (Nat.le_of_ble_eq_true rfl) rfl (Nat.le_of_ble_eq_true rfl) rfl (fun E => ⟨rfl, rfl⟩) (Nat.le_of_ble_eq_true rfl) rfl dX10_init_9 ?_
  refine z_aload_n dX10_init_12 rfl ?_
  refine z_bipush 10 dX10_init_13 (by decide) ?_
  refine z_newa (N := 10) (w' := kw_49) (Or.inl ⟨rfl, rfl⟩) ac_int (by decide) (by decide) rfl (Nat.le_of_ble_eq_true rfl) (by decide) (Nat.le_of_ble_eq_true rfl) (Nat.le_of_ble_eq_true rfl) dX10_init_15 ?_
  refine z_put (w' := kw_50) fpX10_15 (Nat.le_of_ble_eq_true rfl) rfl (Nat.le_of_ble_eq_true rfl) rfl (fun E => ⟨rfl, rfl⟩) (Nat.le_of_ble_eq_true rfl) rfl dX10_init_17 ?_
  refine z_aload_n dX10_init_20 rfl ?_
  refine z_bipush 10 dX10_init_21 (by decide) ?_
  refine z_newa (N := 10) (w' := kw_51) (Or.inl ⟨rfl, rfl⟩) ac_int (by decide) (by decide) rfl (Nat.le_of_ble_eq_true rfl) (by decide) (Nat.le_of_ble_eq_true rfl) (Nat.le_of_ble_eq_true rfl) dX10_init_23 ?_
  refine z_put (w' := kw_52) fpX10_18 (Nat.le_of_ble_eq_true rfl) rfl (Nat.le_of_ble_eq_true rfl) rfl (fun E => ⟨rfl, rfl⟩) (Nat.le_of_ble_eq_true rfl) rfl dX10_init_25 ?_
  refine z_aload_n dX10_init_28 rfl ?_
  refine z_bipush 10 dX10_init_29 (by decide) ?_
  refine z_newa (N := 10) (w' := kw_53) (Or.inl ⟨rfl, rfl⟩) ac_int (by decide) (by decide) rfl (Nat.le_of_ble_eq_true rfl) (by decide) (Nat.le_of_ble_eq_true rfl) (Nat.le_of_ble_eq_true rfl) dX10_init_31 ?_
  refine z_put (w' := kw_54) fpX10_21 (Nat.le_of_ble_eq_true rfl) rfl (Nat.le_of_ble_eq_true rfl) rfl (fun E => ⟨rfl, rfl⟩) (Nat.le_of_ble_eq_true rfl) rfl dX10_init_33 ?_
  exact z_vret rfl (Nat.le_of_ble_eq_true rfl) (Nat.le_of_ble_eq_true rfl) dX10_init_36
theorem zc_ST_22 {l : Launch} : kbSZ l MX9_init 2 9 264 [.ref 22] kw_45 kw_63 := by
  refine kb_enterZ 0 rfl rfl (by decide) ?_
  refine z_aload_n dX9_init_0 rfl ?_
  refine z_obj obX9_3 ob_i ob_c dX9_init_1 (Nat.le_of_ble_eq_true rfl) (Nat.le_of_ble_eq_true rfl) ?_
  refine z_aload_n dX9_init_4 rfl ?_
  refine z_new (w' := kw_46) nwX9_9 rfl (Nat.le_of_ble_eq_true rfl) (Nat.le_of_ble_eq_true rfl) (Nat.le_of_ble_eq_true rfl) dX9_init_5 ?_
  refine z_dup dX9_init_8 ?_
  refine z_inv (w' := kw_54) ciX9_11 (zc_WO_23 (l := l)) rfl rfl (Nat.le_of_ble_eq_true rfl) ⟨(Nat.le_of_ble_eq_true rfl), (Nat.le_of_ble_eq_true rfl), (Nat.le_of_ble_eq_true rfl), (Nat.le_of_ble_eq_true rfl)⟩ dX9_init_9 ?_
  refine z_put (w' := kw_55) fpX9_12 (Nat.le_of_ble_eq_true rfl) rfl (Nat.le_of_ble_eq_true rfl) rfl (fun E => ⟨rfl, rfl⟩) (Nat.le_of_ble_eq_true rfl) rfl dX9_init_12 ?_
  refine z_aload_n dX9_init_15 rfl ?_
  refine z_sipush 200 dX9_init_16 (by decide) ?_
  refine z_newa (N := 200) (w' := kw_56) (Or.inl ⟨rfl, rfl⟩) ac_int (by decide) (by decide) rfl (Nat.le_of_ble_eq_true rfl) (by decide) (Nat.le_of_ble_eq_true rfl) (Nat.le_of_ble_eq_true rfl) dX9_init_19 ?_
  refine z_put (w' := kw_57) fpX9_18 (Nat.le_of_ble_eq_true rfl) rfl (Nat.le_of_ble_eq_true rfl) rfl (fun E => ⟨rfl, rfl⟩) (Nat.le_of_ble_eq_true rfl) rfl dX9_init_21 ?_
  refine z_aload_n dX9_init_24 rfl ?_
  refine z_bipush 8 dX9_init_25 (by decide) ?_
  refine z_newa (N := 8) (w' := kw_58) (Or.inl ⟨rfl, rfl⟩) ac_int (by decide) (by decide) rfl (Nat.le_of_ble_eq_true rfl) (by decide) (Nat.le_of_ble_eq_true rfl) (Nat.le_of_ble_eq_true rfl) dX9_init_27 ?_
  refine z_put (w' := kw_59) fpX9_22 (Nat.le_of_ble_eq_true rfl) rfl (Nat.le_of_ble_eq_true rfl) rfl (fun E => ⟨rfl, rfl⟩) (Nat.le_of_ble_eq_true rfl) rfl dX9_init_29 ?_
  refine z_aload_n dX9_init_32 rfl ?_
  refine z_bipush 8 dX9_init_33 (by decide) ?_
  refine z_newa (N := 8) (w' := kw_60) (Or.inl ⟨rfl, rfl⟩) ac_int (by decide) (by decide) rfl (Nat.le_of_ble_eq_true rfl) (by decide) (Nat.le_of_ble_eq_true rfl) (Nat.le_of_ble_eq_true rfl) dX9_init_35 ?_
  refine z_put (w' := kw_61) fpX9_25 (Nat.le_of_ble_eq_true rfl) rfl (Nat.le_of_ble_eq_true rfl) rfl (fun E => ⟨rfl, rfl⟩) (Nat.le_of_ble_eq_true rfl) rfl dX9_init_37 ?_
  refine z_aload_n dX9_init_40 rfl ?_
  refine z_iconst 3 dX9_init_41 (by decide) ?_
  refine z_newa (N := 3) (w' := kw_62) (Or.inl ⟨rfl, rfl⟩) ac_int (by decide) (by decide) rfl (Nat.le_of_ble_eq_true rfl) (by decide) (Nat.le_of_ble_eq_true rfl) (Nat.le_of_ble_eq_true rfl) dX9_init_42 ?_
  refine z_put (w' := kw_63) fpX9_28 (Nat.le_of_ble_eq_true rfl) rfl (Nat.le_of_ble_eq_true rfl) rfl (fun E => ⟨rfl, rfl⟩) (Nat.le_of_ble_eq_true rfl) rfl dX9_init_44 ?_
  exact z_vret rfl (Nat.le_of_ble_eq_true rfl) (Nat.le_of_ble_eq_true rfl) dX9_init_47
theorem zc_DO_32 {l : Launch} : kbSZ l MX2_init 1 2 12 [.ref 32] kw_65 kw_69 := by
  refine kb_enterZ 0 rfl rfl (by decide) ?_
  refine z_aload_n dX2_init_0 rfl ?_
  refine z_obj obX2_3 ob_i ob_c dX2_init_1 (Nat.le_of_ble_eq_true rfl) (Nat.le_of_ble_eq_true rfl) ?_
  refine z_aload_n dX2_init_4 rfl ?_
  refine z_bipush 6 dX2_init_5 (by decide) ?_
  refine z_newa (N := 6) (w' := kw_66) (Or.inl ⟨rfl, rfl⟩) ac_int (by decide) (by decide) rfl (Nat.le_of_ble_eq_true rfl) (by decide) (Nat.le_of_ble_eq_true rfl) (Nat.le_of_ble_eq_true rfl) dX2_init_7 ?_
  refine z_put (w' := kw_67) fpX2_9 (Nat.le_of_ble_eq_true rfl) rfl (Nat.le_of_ble_eq_true rfl) rfl (fun E => ⟨rfl, rfl⟩) (Nat.le_of_ble_eq_true rfl) rfl dX2_init_9 ?_
  refine z_aload_n dX2_init_12 rfl ?_
  refine z_bipush 6 dX2_init_13 (by decide) ?_
  refine z_newa (N := 6) (w' := kw_68) (Or.inl ⟨rfl, rfl⟩) ac_int (by decide) (by decide) rfl (Nat.le_of_ble_eq_true rfl) (by decide) (Nat.le_of_ble_eq_true rfl) (Nat.le_of_ble_eq_true rfl) dX2_init_15 ?_
  refine z_put (w' := kw_69) fpX2_15 (Nat.le_of_ble_eq_true rfl) rfl (Nat.le_of_ble_eq_true rfl) rfl (fun E => ⟨rfl, rfl⟩) (Nat.le_of_ble_eq_true rfl) rfl dX2_init_17 ?_
  exact z_vret rfl (Nat.le_of_ble_eq_true rfl) (Nat.le_of_ble_eq_true rfl) dX2_init_20
theorem zc_JO_35 {l : Launch} : kbSZ l MX4_init 1 3 764 [.ref 35, .ref 13] kw_71 kw_78 := by
  refine kb_enterZ 0 rfl rfl (by decide) ?_
  refine z_aload_n dX4_init_0 rfl ?_
  refine z_obj obX4_3 ob_i ob_c dX4_init_1 (Nat.le_of_ble_eq_true rfl) (Nat.le_of_ble_eq_true rfl) ?_
  refine z_aload_n dX4_init_4 rfl ?_
  refine z_sipush 600 dX4_init_5 (by decide) ?_
  refine z_newa (N := 600) (w' := kw_72) (Or.inl ⟨rfl, rfl⟩) ac_int (by decide) (by decide) rfl (Nat.le_of_ble_eq_true rfl) (by decide) (Nat.le_of_ble_eq_true rfl) (Nat.le_of_ble_eq_true rfl) dX4_init_8 ?_
  refine z_put (w' := kw_73) fpX4_9 (Nat.le_of_ble_eq_true rfl) rfl (Nat.le_of_ble_eq_true rfl) rfl (fun E => ⟨rfl, rfl⟩) (Nat.le_of_ble_eq_true rfl) rfl dX4_init_10 ?_
  refine z_aload_n dX4_init_13 rfl ?_
  refine z_bipush 64 dX4_init_14 (by decide) ?_
  refine z_newa (N := 64) (w' := kw_74) (Or.inl ⟨rfl, rfl⟩) ac_int (by decide) (by decide) rfl (Nat.le_of_ble_eq_true rfl) (by decide) (Nat.le_of_ble_eq_true rfl) (Nat.le_of_ble_eq_true rfl) dX4_init_16 ?_
  refine z_put (w' := kw_75) fpX4_15 (Nat.le_of_ble_eq_true rfl) rfl (Nat.le_of_ble_eq_true rfl) rfl (fun E => ⟨rfl, rfl⟩) (Nat.le_of_ble_eq_true rfl) rfl dX4_init_18 ?_
  refine z_aload_n dX4_init_21 rfl ?_
  refine z_bipush 100 dX4_init_22 (by decide) ?_
  refine z_newa (N := 100) (w' := kw_76) (Or.inl ⟨rfl, rfl⟩) ac_int (by decide) (by decide) rfl (Nat.le_of_ble_eq_true rfl) (by decide) (Nat.le_of_ble_eq_true rfl) (Nat.le_of_ble_eq_true rfl) dX4_init_24 ?_
  refine z_put (w' := kw_77) fpX4_18 (Nat.le_of_ble_eq_true rfl) rfl (Nat.le_of_ble_eq_true rfl) rfl (fun E => ⟨rfl, rfl⟩) (Nat.le_of_ble_eq_true rfl) rfl dX4_init_26 ?_
  refine z_aload_n dX4_init_29 rfl ?_
  refine z_aload_n dX4_init_30 rfl ?_
  refine z_put (w' := kw_78) fpX4_21 (Nat.le_of_ble_eq_true rfl) rfl (Nat.le_of_ble_eq_true rfl) rfl (fun E => ⟨rfl, rfl⟩) (Nat.le_of_ble_eq_true rfl) rfl dX4_init_31 ?_
  exact z_vret rfl (Nat.le_of_ble_eq_true rfl) (Nat.le_of_ble_eq_true rfl) dX4_init_34
theorem zc_RU_39 {l : Launch} : kbSZ l MX7_init 1 3 37 [.ref 39, .ref 13] kw_80 kw_87 := by
  refine kb_enterZ 0 rfl rfl (by decide) ?_
  refine z_aload_n dX7_init_0 rfl ?_
  refine z_obj obX7_3 ob_i ob_c dX7_init_1 (Nat.le_of_ble_eq_true rfl) (Nat.le_of_ble_eq_true rfl) ?_
  refine z_aload_n dX7_init_4 rfl ?_
  refine z_bipush 12 dX7_init_5 (by decide) ?_
  refine z_newa (N := 12) (w' := kw_81) (Or.inl ⟨rfl, rfl⟩) ac_int (by decide) (by decide) rfl (Nat.le_of_ble_eq_true rfl) (by decide) (Nat.le_of_ble_eq_true rfl) (Nat.le_of_ble_eq_true rfl) dX7_init_7 ?_
  refine z_put (w' := kw_82) fpX7_9 (Nat.le_of_ble_eq_true rfl) rfl (Nat.le_of_ble_eq_true rfl) rfl (fun E => ⟨rfl, rfl⟩) (Nat.le_of_ble_eq_true rfl) rfl dX7_init_9 ?_
  refine z_aload_n dX7_init_12 rfl ?_
  refine z_bipush 12 dX7_init_13 (by decide) ?_
  refine z_newa (N := 12) (w' := kw_83) (Or.inl ⟨rfl, rfl⟩) ac_int (by decide) (by decide) rfl (Nat.le_of_ble_eq_true rfl) (by decide) (Nat.le_of_ble_eq_true rfl) (Nat.le_of_ble_eq_true rfl) dX7_init_15 ?_
  refine z_put (w' := kw_84) fpX7_15 (Nat.le_of_ble_eq_true rfl) rfl (Nat.le_of_ble_eq_true rfl) rfl (fun E => ⟨rfl, rfl⟩) (Nat.le_of_ble_eq_true rfl) rfl dX7_init_17 ?_
  refine z_aload_n dX7_init_20 rfl ?_
  refine z_bipush 13 dX7_init_21 (by decide) ?_
  refine z_newa (N := 13) (w' := kw_85) (Or.inl ⟨rfl, rfl⟩) ac_int (by decide) (by decide) rfl (Nat.le_of_ble_eq_true rfl) (by decide) (Nat.le_of_ble_eq_true rfl) (Nat.le_of_ble_eq_true rfl) dX7_init_23 ?_
  refine z_put (w' := kw_86) fpX7_18 (Nat.le_of_ble_eq_true rfl) rfl (Nat.le_of_ble_eq_true rfl) rfl (fun E => ⟨rfl, rfl⟩) (Nat.le_of_ble_eq_true rfl) rfl dX7_init_25 ?_
  refine z_aload_n dX7_init_28 rfl ?_
  refine z_aload_n dX7_init_29 rfl ?_
  refine z_put (w' := kw_87) fpX7_21 (Nat.le_of_ble_eq_true rfl) rfl (Nat.le_of_ble_eq_true rfl) rfl (fun E => ⟨rfl, rfl⟩) (Nat.le_of_ble_eq_true rfl) rfl dX7_init_30 ?_
  exact z_vret rfl (Nat.le_of_ble_eq_true rfl) (Nat.le_of_ble_eq_true rfl) dX7_init_33
theorem zc_SP_43 {l : Launch} : kbSZ l MX8_init 1 4 342 [.ref 43, .ref 13, .ref 35] kw_89 kw_99 := by
  refine kb_enterZ 0 rfl rfl (by decide) ?_
  refine z_aload_n dX8_init_0 rfl ?_
  refine z_obj obX8_3 ob_i ob_c dX8_init_1 (Nat.le_of_ble_eq_true rfl) (Nat.le_of_ble_eq_true rfl) ?_
  refine z_aload_n dX8_init_4 rfl ?_
  refine z_sipush 130 dX8_init_5 (by decide) ?_
  refine z_newa (N := 130) (w' := kw_90) (Or.inr (Or.inl ⟨rfl, rfl⟩)) ac_long (by decide) (by decide) rfl (Nat.le_of_ble_eq_true rfl) (by decide) (Nat.le_of_ble_eq_true rfl) (Nat.le_of_ble_eq_true rfl) dX8_init_8 ?_
  refine z_put (w' := kw_91) fpX8_9 (Nat.le_of_ble_eq_true rfl) rfl (Nat.le_of_ble_eq_true rfl) rfl (fun E => ⟨rfl, rfl⟩) (Nat.le_of_ble_eq_true rfl) rfl dX8_init_10 ?_
  refine z_aload_n dX8_init_13 rfl ?_
  refine z_sipush 130 dX8_init_14 (by decide) ?_
  refine z_newa (N := 130) (w' := kw_92) (Or.inl ⟨rfl, rfl⟩) ac_int (by decide) (by decide) rfl (Nat.le_of_ble_eq_true rfl) (by decide) (Nat.le_of_ble_eq_true rfl) (Nat.le_of_ble_eq_true rfl) dX8_init_17 ?_
  refine z_put (w' := kw_93) fpX8_15 (Nat.le_of_ble_eq_true rfl) rfl (Nat.le_of_ble_eq_true rfl) rfl (fun E => ⟨rfl, rfl⟩) (Nat.le_of_ble_eq_true rfl) rfl dX8_init_19 ?_
  refine z_aload_n dX8_init_22 rfl ?_
  refine z_bipush 12 dX8_init_23 (by decide) ?_
  refine z_newa (N := 12) (w' := kw_94) (Or.inl ⟨rfl, rfl⟩) ac_int (by decide) (by decide) rfl (Nat.le_of_ble_eq_true rfl) (by decide) (Nat.le_of_ble_eq_true rfl) (Nat.le_of_ble_eq_true rfl) dX8_init_25 ?_
  refine z_put (w' := kw_95) fpX8_19 (Nat.le_of_ble_eq_true rfl) rfl (Nat.le_of_ble_eq_true rfl) rfl (fun E => ⟨rfl, rfl⟩) (Nat.le_of_ble_eq_true rfl) rfl dX8_init_27 ?_
  refine z_aload_n dX8_init_30 rfl ?_
  refine z_bipush 70 dX8_init_31 (by decide) ?_
  refine z_newa (N := 70) (w' := kw_96) (Or.inl ⟨rfl, rfl⟩) ac_int (by decide) (by decide) rfl (Nat.le_of_ble_eq_true rfl) (by decide) (Nat.le_of_ble_eq_true rfl) (Nat.le_of_ble_eq_true rfl) dX8_init_33 ?_
  refine z_put (w' := kw_97) fpX8_22 (Nat.le_of_ble_eq_true rfl) rfl (Nat.le_of_ble_eq_true rfl) rfl (fun E => ⟨rfl, rfl⟩) (Nat.le_of_ble_eq_true rfl) rfl dX8_init_35 ?_
  refine z_aload_n dX8_init_38 rfl ?_
  refine z_aload_n dX8_init_39 rfl ?_
  refine z_put (w' := kw_98) fpX8_25 (Nat.le_of_ble_eq_true rfl) rfl (Nat.le_of_ble_eq_true rfl) rfl (fun E => ⟨rfl, rfl⟩) (Nat.le_of_ble_eq_true rfl) rfl dX8_init_40 ?_
  refine z_aload_n dX8_init_43 rfl ?_
  refine z_aload_n dX8_init_44 rfl ?_
  refine z_put (w' := kw_99) fpX8_29 (Nat.le_of_ble_eq_true rfl) rfl (Nat.le_of_ble_eq_true rfl) rfl (fun E => ⟨rfl, rfl⟩) (Nat.le_of_ble_eq_true rfl) rfl dX8_init_45 ?_
  exact z_vret rfl (Nat.le_of_ble_eq_true rfl) (Nat.le_of_ble_eq_true rfl) dX8_init_48
theorem zc_CO_48 {l : Launch} : kbSZ l MX1_init 1 2 120 [.ref 48, .ref 13] kw_101 kw_106 := by
  refine kb_enterZ 0 rfl rfl (by decide) ?_
  refine z_aload_n dX1_init_0 rfl ?_
  refine z_obj obX1_3 ob_i ob_c dX1_init_1 (Nat.le_of_ble_eq_true rfl) (Nat.le_of_ble_eq_true rfl) ?_
  refine z_aload_n dX1_init_4 rfl ?_
  refine z_bipush 60 dX1_init_5 (by decide) ?_
  refine z_newa (N := 60) (w' := kw_102) (Or.inl ⟨rfl, rfl⟩) ac_int (by decide) (by decide) rfl (Nat.le_of_ble_eq_true rfl) (by decide) (Nat.le_of_ble_eq_true rfl) (Nat.le_of_ble_eq_true rfl) dX1_init_7 ?_
  refine z_put (w' := kw_103) fpX1_9 (Nat.le_of_ble_eq_true rfl) rfl (Nat.le_of_ble_eq_true rfl) rfl (fun E => ⟨rfl, rfl⟩) (Nat.le_of_ble_eq_true rfl) rfl dX1_init_9 ?_
  refine z_aload_n dX1_init_12 rfl ?_
  refine z_bipush 60 dX1_init_13 (by decide) ?_
  refine z_newa (N := 60) (w' := kw_104) (Or.inr (Or.inr ⟨rfl, rfl⟩)) ac_boolean (by decide) (by decide) rfl (Nat.le_of_ble_eq_true rfl) (by decide) (Nat.le_of_ble_eq_true rfl) (Nat.le_of_ble_eq_true rfl) dX1_init_15 ?_
  refine z_put (w' := kw_105) fpX1_15 (Nat.le_of_ble_eq_true rfl) rfl (Nat.le_of_ble_eq_true rfl) rfl (fun E => ⟨rfl, rfl⟩) (Nat.le_of_ble_eq_true rfl) rfl dX1_init_17 ?_
  refine z_aload_n dX1_init_20 rfl ?_
  refine z_aload_n dX1_init_21 rfl ?_
  refine z_put (w' := kw_106) fpX1_19 (Nat.le_of_ble_eq_true rfl) rfl (Nat.le_of_ble_eq_true rfl) rfl (fun E => ⟨rfl, rfl⟩) (Nat.le_of_ble_eq_true rfl) rfl dX1_init_22 ?_
  exact z_vret rfl (Nat.le_of_ble_eq_true rfl) (Nat.le_of_ble_eq_true rfl) dX1_init_25
theorem zc_HO_51 {l : Launch} : kbSZ l MX3_init 1 2 160 [.ref 51, .ref 32, .ref 12] kw_108 kw_115 := by
  refine kb_enterZ 0 rfl rfl (by decide) ?_
  refine z_aload_n dX3_init_0 rfl ?_
  refine z_obj obX3_3 ob_i ob_c dX3_init_1 (Nat.le_of_ble_eq_true rfl) (Nat.le_of_ble_eq_true rfl) ?_
  refine z_aload_n dX3_init_4 rfl ?_
  refine z_bipush 60 dX3_init_5 (by decide) ?_
  refine z_newa (N := 60) (w' := kw_109) (Or.inl ⟨rfl, rfl⟩) ac_int (by decide) (by decide) rfl (Nat.le_of_ble_eq_true rfl) (by decide) (Nat.le_of_ble_eq_true rfl) (Nat.le_of_ble_eq_true rfl) dX3_init_7 ?_
  refine z_put (w' := kw_110) fpX3_9 (Nat.le_of_ble_eq_true rfl) rfl (Nat.le_of_ble_eq_true rfl) rfl (fun E => ⟨rfl, rfl⟩) (Nat.le_of_ble_eq_true rfl) rfl dX3_init_9 ?_
  refine z_aload_n dX3_init_12 rfl ?_
  refine z_bipush 100 dX3_init_13 (by decide) ?_
  refine z_newa (N := 100) (w' := kw_111) (Or.inl ⟨rfl, rfl⟩) ac_int (by decide) (by decide) rfl (Nat.le_of_ble_eq_true rfl) (by decide) (Nat.le_of_ble_eq_true rfl) (Nat.le_of_ble_eq_true rfl) dX3_init_15 ?_
  refine z_put (w' := kw_112) fpX3_15 (Nat.le_of_ble_eq_true rfl) rfl (Nat.le_of_ble_eq_true rfl) rfl (fun E => ⟨rfl, rfl⟩) (Nat.le_of_ble_eq_true rfl) rfl dX3_init_17 ?_
  refine z_aload_n dX3_init_20 rfl ?_
  refine z_aload_n dX3_init_21 rfl ?_
  refine z_put (w' := kw_113) fpX3_18 (Nat.le_of_ble_eq_true rfl) rfl (Nat.le_of_ble_eq_true rfl) rfl (fun E => ⟨rfl, rfl⟩) (Nat.le_of_ble_eq_true rfl) rfl dX3_init_22 ?_
  refine z_aload_n dX3_init_25 rfl ?_
  refine z_aload_n dX3_init_26 rfl ?_
  refine z_put (w' := kw_114) fpX3_22 (Nat.le_of_ble_eq_true rfl) rfl (Nat.le_of_ble_eq_true rfl) rfl (fun E => ⟨rfl, rfl⟩) (Nat.le_of_ble_eq_true rfl) rfl dX3_init_27 ?_
  refine z_aload_n dX3_init_30 rfl ?_
  refine z_aload_n dX3_init_31 rfl ?_
  refine z_getR flX3_26 (Nat.le_of_ble_eq_true rfl) rfl rfl dX3_init_32 ?_
  refine z_put (w' := kw_115) fpX3_32 (Nat.le_of_ble_eq_true rfl) rfl (Nat.le_of_ble_eq_true rfl) rfl (fun E => ⟨rfl, rfl⟩) (Nat.le_of_ble_eq_true rfl) rfl dX3_init_35 ?_
  exact z_vret rfl (Nat.le_of_ble_eq_true rfl) (Nat.le_of_ble_eq_true rfl) dX3_init_38
theorem zc_PL_54 {l : Launch} : kbSZ l MX5_init 1 2 20 [.ref 54, .ref 51, .ref 39] kw_117 kw_124 := by
  refine kb_enterZ 0 rfl rfl (by decide) ?_
  refine z_aload_n dX5_init_0 rfl ?_
  refine z_obj obX5_3 ob_i ob_c dX5_init_1 (Nat.le_of_ble_eq_true rfl) (Nat.le_of_ble_eq_true rfl) ?_
  refine z_aload_n dX5_init_4 rfl ?_
  refine z_bipush 10 dX5_init_5 (by decide) ?_
  refine z_newa (N := 10) (w' := kw_118) (Or.inl ⟨rfl, rfl⟩) ac_int (by decide) (by decide) rfl (Nat.le_of_ble_eq_true rfl) (by decide) (Nat.le_of_ble_eq_true rfl) (Nat.le_of_ble_eq_true rfl) dX5_init_7 ?_
  refine z_put (w' := kw_119) fpX5_9 (Nat.le_of_ble_eq_true rfl) rfl (Nat.le_of_ble_eq_true rfl) rfl (fun E => ⟨rfl, rfl⟩) (Nat.le_of_ble_eq_true rfl) rfl dX5_init_9 ?_
  refine z_aload_n dX5_init_12 rfl ?_
  refine z_bipush 10 dX5_init_13 (by decide) ?_
  refine z_newa (N := 10) (w' := kw_120) (Or.inl ⟨rfl, rfl⟩) ac_int (by decide) (by decide) rfl (Nat.le_of_ble_eq_true rfl) (by decide) (Nat.le_of_ble_eq_true rfl) (Nat.le_of_ble_eq_true rfl) dX5_init_15 ?_
  refine z_put (w' := kw_121) fpX5_15 (Nat.le_of_ble_eq_true rfl) rfl (Nat.le_of_ble_eq_true rfl) rfl (fun E => ⟨rfl, rfl⟩) (Nat.le_of_ble_eq_true rfl) rfl dX5_init_17 ?_
  refine z_aload_n dX5_init_20 rfl ?_
  refine z_aload_n dX5_init_21 rfl ?_
  refine z_put (w' := kw_122) fpX5_18 (Nat.le_of_ble_eq_true rfl) rfl (Nat.le_of_ble_eq_true rfl) rfl (fun E => ⟨rfl, rfl⟩) (Nat.le_of_ble_eq_true rfl) rfl dX5_init_22 ?_
  refine z_aload_n dX5_init_25 rfl ?_
  refine z_aload_n dX5_init_26 rfl ?_
  refine z_put (w' := kw_123) fpX5_22 (Nat.le_of_ble_eq_true rfl) rfl (Nat.le_of_ble_eq_true rfl) rfl (fun E => ⟨rfl, rfl⟩) (Nat.le_of_ble_eq_true rfl) rfl dX5_init_27 ?_
  refine z_aload_n dX5_init_30 rfl ?_
  refine z_aload_n dX5_init_31 rfl ?_
  refine z_getR flX5_26 (Nat.le_of_ble_eq_true rfl) rfl rfl dX5_init_32 ?_
  refine z_put (w' := kw_124) fpX5_32 (Nat.le_of_ble_eq_true rfl) rfl (Nat.le_of_ble_eq_true rfl) rfl (fun E => ⟨rfl, rfl⟩) (Nat.le_of_ble_eq_true rfl) rfl dX5_init_35 ?_
  exact z_vret rfl (Nat.le_of_ble_eq_true rfl) (Nat.le_of_ble_eq_true rfl) dX5_init_38
theorem zc_KB_0 {l : Launch} : kbSZ l MX11_init 3 56 2858 [.ref 0] kw_1 kw_125 := by
  refine kb_enterZ 0 rfl rfl (by decide) ?_
  refine z_aload_n dX11_init_0 rfl ?_
  refine z_obj obX11_1 ob_i ob_c dX11_init_1 (Nat.le_of_ble_eq_true rfl) (Nat.le_of_ble_eq_true rfl) ?_
  refine z_aload_n dX11_init_4 rfl ?_
  refine z_new (w' := kw_2) nwX11_7 rfl (Nat.le_of_ble_eq_true rfl) (Nat.le_of_ble_eq_true rfl) (Nat.le_of_ble_eq_true rfl) dX11_init_5 ?_
  refine z_dup dX11_init_8 ?_
  refine z_inv (w' := kw_23) ciX11_9 (zc_BT_1 (l := l)) rfl rfl (Nat.le_of_ble_eq_true rfl) ⟨(Nat.le_of_ble_eq_true rfl), (Nat.le_of_ble_eq_true rfl), (Nat.le_of_ble_eq_true rfl), (Nat.le_of_ble_eq_true rfl)⟩ dX11_init_9 ?_
  refine z_put (w' := kw_24) fpX11_10 (Nat.le_of_ble_eq_true rfl) rfl (Nat.le_of_ble_eq_true rfl) rfl (fun E => ⟨rfl, rfl⟩) (Nat.le_of_ble_eq_true rfl) rfl dX11_init_12 ?_
  refine z_aload_n dX11_init_15 rfl ?_
  refine z_new (w' := kw_25) nwX11_16 rfl (Nat.le_of_ble_eq_true rfl) (Nat.le_of_ble_eq_true rfl) (Nat.le_of_ble_eq_true rfl) dX11_init_16 ?_
  refine z_dup dX11_init_19 ?_
  refine z_inv (w' := kw_43) ciX11_18 (zc_ST_12 (l := l)) rfl rfl (Nat.le_of_ble_eq_true rfl) ⟨(Nat.le_of_ble_eq_true rfl), (Nat.le_of_ble_eq_true rfl), (Nat.le_of_ble_eq_true rfl), (Nat.le_of_ble_eq_true rfl)⟩ dX11_init_20 ?_
  refine z_put (w' := kw_44) fpX11_19 (Nat.le_of_ble_eq_true rfl) rfl (Nat.le_of_ble_eq_true rfl) rfl (fun E => ⟨rfl, rfl⟩) (Nat.le_of_ble_eq_true rfl) rfl dX11_init_23 ?_
  refine z_aload_n dX11_init_26 rfl ?_
  refine z_new (w' := kw_45) nwX11_16 rfl (Nat.le_of_ble_eq_true rfl) (Nat.le_of_ble_eq_true rfl) (Nat.le_of_ble_eq_true rfl) dX11_init_27 ?_
  refine z_dup dX11_init_30 ?_
  refine z_inv (w' := kw_63) ciX11_18 (zc_ST_22 (l := l)) rfl rfl (Nat.le_of_ble_eq_true rfl) ⟨(Nat.le_of_ble_eq_true rfl), (Nat.le_of_ble_eq_true rfl), (Nat.le_of_ble_eq_true rfl), (Nat.le_of_ble_eq_true rfl)⟩ dX11_init_31 ?_
  refine z_put (w' := kw_64) fpX11_23 (Nat.le_of_ble_eq_true rfl) rfl (Nat.le_of_ble_eq_true rfl) rfl (fun E => ⟨rfl, rfl⟩) (Nat.le_of_ble_eq_true rfl) rfl dX11_init_34 ?_
  refine z_aload_n dX11_init_37 rfl ?_
  refine z_new (w' := kw_65) nwX11_26 rfl (Nat.le_of_ble_eq_true rfl) (Nat.le_of_ble_eq_true rfl) (Nat.le_of_ble_eq_true rfl) dX11_init_38 ?_
  refine z_dup dX11_init_41 ?_
  refine z_inv (w' := kw_69) ciX11_28 (zc_DO_32 (l := l)) rfl rfl (Nat.le_of_ble_eq_true rfl) ⟨(Nat.le_of_ble_eq_true rfl), (Nat.le_of_ble_eq_true rfl), (Nat.le_of_ble_eq_true rfl), (Nat.le_of_ble_eq_true rfl)⟩ dX11_init_42 ?_
  refine z_put (w' := kw_70) fpX11_29 (Nat.le_of_ble_eq_true rfl) rfl (Nat.le_of_ble_eq_true rfl) rfl (fun E => ⟨rfl, rfl⟩) (Nat.le_of_ble_eq_true rfl) rfl dX11_init_45 ?_
  refine z_aload_n dX11_init_48 rfl ?_
  refine z_new (w' := kw_71) nwX11_33 rfl (Nat.le_of_ble_eq_true rfl) (Nat.le_of_ble_eq_true rfl) (Nat.le_of_ble_eq_true rfl) dX11_init_49 ?_
  refine z_dup dX11_init_52 ?_
  refine z_aload_n dX11_init_53 rfl ?_
  refine z_getR flX11_19 (Nat.le_of_ble_eq_true rfl) rfl rfl dX11_init_54 ?_
  refine z_getR flX11_35 (Nat.le_of_ble_eq_true rfl) rfl rfl dX11_init_57 ?_
  refine z_inv (w' := kw_78) ciX11_39 (zc_JO_35 (l := l)) rfl rfl (Nat.le_of_ble_eq_true rfl) ⟨(Nat.le_of_ble_eq_true rfl), (Nat.le_of_ble_eq_true rfl), (Nat.le_of_ble_eq_true rfl), (Nat.le_of_ble_eq_true rfl)⟩ dX11_init_60 ?_
  refine z_put (w' := kw_79) fpX11_42 (Nat.le_of_ble_eq_true rfl) rfl (Nat.le_of_ble_eq_true rfl) rfl (fun E => ⟨rfl, rfl⟩) (Nat.le_of_ble_eq_true rfl) rfl dX11_init_63 ?_
  refine z_aload_n dX11_init_66 rfl ?_
  refine z_new (w' := kw_80) nwX11_46 rfl (Nat.le_of_ble_eq_true rfl) (Nat.le_of_ble_eq_true rfl) (Nat.le_of_ble_eq_true rfl) dX11_init_67 ?_
  refine z_dup dX11_init_70 ?_
  refine z_aload_n dX11_init_71 rfl ?_
  refine z_getR flX11_19 (Nat.le_of_ble_eq_true rfl) rfl rfl dX11_init_72 ?_
  refine z_getR flX11_35 (Nat.le_of_ble_eq_true rfl) rfl rfl dX11_init_75 ?_
  refine z_inv (w' := kw_87) ciX11_48 (zc_RU_39 (l := l)) rfl rfl (Nat.le_of_ble_eq_true rfl) ⟨(Nat.le_of_ble_eq_true rfl), (Nat.le_of_ble_eq_true rfl), (Nat.le_of_ble_eq_true rfl), (Nat.le_of_ble_eq_true rfl)⟩ dX11_init_78 ?_
  refine z_put (w' := kw_88) fpX11_49 (Nat.le_of_ble_eq_true rfl) rfl (Nat.le_of_ble_eq_true rfl) rfl (fun E => ⟨rfl, rfl⟩) (Nat.le_of_ble_eq_true rfl) rfl dX11_init_81 ?_
  refine z_aload_n dX11_init_84 rfl ?_
  refine z_new (w' := kw_89) nwX11_53 rfl (Nat.le_of_ble_eq_true rfl) (Nat.le_of_ble_eq_true rfl) (Nat.le_of_ble_eq_true rfl) dX11_init_85 ?_
  refine z_dup dX11_init_88 ?_
  refine z_aload_n dX11_init_89 rfl ?_
  refine z_getR flX11_19 (Nat.le_of_ble_eq_true rfl) rfl rfl dX11_init_90 ?_
  refine z_getR flX11_35 (Nat.le_of_ble_eq_true rfl) rfl rfl dX11_init_93 ?_
  refine z_aload_n dX11_init_96 rfl ?_
  refine z_getR flX11_42 (Nat.le_of_ble_eq_true rfl) rfl rfl dX11_init_97 ?_
  refine z_inv (w' := kw_99) ciX11_55 (zc_SP_43 (l := l)) rfl rfl (Nat.le_of_ble_eq_true rfl) ⟨(Nat.le_of_ble_eq_true rfl), (Nat.le_of_ble_eq_true rfl), (Nat.le_of_ble_eq_true rfl), (Nat.le_of_ble_eq_true rfl)⟩ dX11_init_100 ?_
  refine z_put (w' := kw_100) fpX11_58 (Nat.le_of_ble_eq_true rfl) rfl (Nat.le_of_ble_eq_true rfl) rfl (fun E => ⟨rfl, rfl⟩) (Nat.le_of_ble_eq_true rfl) rfl dX11_init_103 ?_
  refine z_aload_n dX11_init_106 rfl ?_
  refine z_new (w' := kw_101) nwX11_62 rfl (Nat.le_of_ble_eq_true rfl) (Nat.le_of_ble_eq_true rfl) (Nat.le_of_ble_eq_true rfl) dX11_init_107 ?_
  refine z_dup dX11_init_110 ?_
  refine z_aload_n dX11_init_111 rfl ?_
  refine z_getR flX11_19 (Nat.le_of_ble_eq_true rfl) rfl rfl dX11_init_112 ?_
  refine z_getR flX11_35 (Nat.le_of_ble_eq_true rfl) rfl rfl dX11_init_115 ?_
  refine z_inv (w' := kw_106) ciX11_64 (zc_CO_48 (l := l)) rfl rfl (Nat.le_of_ble_eq_true rfl) ⟨(Nat.le_of_ble_eq_true rfl), (Nat.le_of_ble_eq_true rfl), (Nat.le_of_ble_eq_true rfl), (Nat.le_of_ble_eq_true rfl)⟩ dX11_init_118 ?_
  refine z_put (w' := kw_107) fpX11_65 (Nat.le_of_ble_eq_true rfl) rfl (Nat.le_of_ble_eq_true rfl) rfl (fun E => ⟨rfl, rfl⟩) (Nat.le_of_ble_eq_true rfl) rfl dX11_init_121 ?_
  refine z_aload_n dX11_init_124 rfl ?_
  refine z_new (w' := kw_108) nwX11_69 rfl (Nat.le_of_ble_eq_true rfl) (Nat.le_of_ble_eq_true rfl) (Nat.le_of_ble_eq_true rfl) dX11_init_125 ?_
  refine z_dup dX11_init_128 ?_
  refine z_aload_n dX11_init_129 rfl ?_
  refine z_getR flX11_29 (Nat.le_of_ble_eq_true rfl) rfl rfl dX11_init_130 ?_
  refine z_aload_n dX11_init_133 rfl ?_
  refine z_getR flX11_19 (Nat.le_of_ble_eq_true rfl) rfl rfl dX11_init_134 ?_
  refine z_inv (w' := kw_115) ciX11_71 (zc_HO_51 (l := l)) rfl rfl (Nat.le_of_ble_eq_true rfl) ⟨(Nat.le_of_ble_eq_true rfl), (Nat.le_of_ble_eq_true rfl), (Nat.le_of_ble_eq_true rfl), (Nat.le_of_ble_eq_true rfl)⟩ dX11_init_137 ?_
  refine z_put (w' := kw_116) fpX11_74 (Nat.le_of_ble_eq_true rfl) rfl (Nat.le_of_ble_eq_true rfl) rfl (fun E => ⟨rfl, rfl⟩) (Nat.le_of_ble_eq_true rfl) rfl dX11_init_140 ?_
  refine z_aload_n dX11_init_143 rfl ?_
  refine z_new (w' := kw_117) nwX11_78 rfl (Nat.le_of_ble_eq_true rfl) (Nat.le_of_ble_eq_true rfl) (Nat.le_of_ble_eq_true rfl) dX11_init_144 ?_
  refine z_dup dX11_init_147 ?_
  refine z_aload_n dX11_init_148 rfl ?_
  refine z_getR flX11_74 (Nat.le_of_ble_eq_true rfl) rfl rfl dX11_init_149 ?_
  refine z_aload_n dX11_init_152 rfl ?_
  refine z_getR flX11_49 (Nat.le_of_ble_eq_true rfl) rfl rfl dX11_init_153 ?_
  refine z_inv (w' := kw_124) ciX11_80 (zc_PL_54 (l := l)) rfl rfl (Nat.le_of_ble_eq_true rfl) ⟨(Nat.le_of_ble_eq_true rfl), (Nat.le_of_ble_eq_true rfl), (Nat.le_of_ble_eq_true rfl), (Nat.le_of_ble_eq_true rfl)⟩ dX11_init_156 ?_
  refine z_put (w' := kw_125) fpX11_83 (Nat.le_of_ble_eq_true rfl) rfl (Nat.le_of_ble_eq_true rfl) rfl (fun E => ⟨rfl, rfl⟩) (Nat.le_of_ble_eq_true rfl) rfl dX11_init_159 ?_
  exact z_vret rfl (Nat.le_of_ble_eq_true rfl) (Nat.le_of_ble_eq_true rfl) dX11_init_162
theorem zc_MD_57 {l : Launch} : kbSZ l MX12_init 1 39 8739 [.ref 57] kw_126 kw_218 := by
  refine kb_enterZ 0 rfl rfl (by decide) ?_
  refine z_aload_n dX12_init_0 rfl ?_
  refine z_obj obX12_3 ob_i ob_c dX12_init_1 (Nat.le_of_ble_eq_true rfl) (Nat.le_of_ble_eq_true rfl) ?_
  refine z_aload_n dX12_init_4 rfl ?_
  refine z_iconst 3 dX12_init_5 (by decide) ?_
  refine z_newq (N := 3) (w' := kw_127) nqX12_9 (by decide) (by decide) rfl (Nat.le_of_ble_eq_true rfl) (by decide) (Nat.le_of_ble_eq_true rfl) (Nat.le_of_ble_eq_true rfl) dX12_init_6 ?_
  refine z_dup dX12_init_9 ?_
  refine z_iconst 0 dX12_init_10 (by decide) ?_
  refine z_ldcS lsX12_11 dX12_init_11 ?_
  refine z_astn (jn := 0) (w' := kw_128) (Nat.le_of_ble_eq_true rfl) rfl (kbIn_of (by decide)) (by decide) (by decide) (Nat.le_of_ble_eq_true rfl) rfl dX12_init_13 ?_
  refine z_dup dX12_init_14 ?_
  refine z_iconst 1 dX12_init_15 (by decide) ?_
  refine z_ldcS lsX12_13 dX12_init_16 ?_
  refine z_astn (jn := 1) (w' := kw_129) (Nat.le_of_ble_eq_true rfl) rfl (kbIn_of (by decide)) (by decide) (by decide) (Nat.le_of_ble_eq_true rfl) rfl dX12_init_18 ?_
  refine z_dup dX12_init_19 ?_
  refine z_iconst 2 dX12_init_20 (by decide) ?_
  refine z_ldcS lsX12_15 dX12_init_21 ?_
  refine z_astn (jn := 2) (w' := kw_130) (Nat.le_of_ble_eq_true rfl) rfl (kbIn_of (by decide)) (by decide) (by decide) (Nat.le_of_ble_eq_true rfl) rfl dX12_init_23 ?_
  refine z_put (w' := kw_131) fpX12_17 (Nat.le_of_ble_eq_true rfl) rfl (Nat.le_of_ble_eq_true rfl) rfl (fun E => ⟨rfl, rfl⟩) (Nat.le_of_ble_eq_true rfl) rfl dX12_init_24 ?_
  refine z_aload_n dX12_init_27 rfl ?_
  refine z_iconst 4 dX12_init_28 (by decide) ?_
  refine z_newq (N := 4) (w' := kw_132) nqX12_9 (by decide) (by decide) rfl (Nat.le_of_ble_eq_true rfl) (by decide) (Nat.le_of_ble_eq_true rfl) (Nat.le_of_ble_eq_true rfl) dX12_init_29 ?_
  refine z_dup dX12_init_32 ?_
  refine z_iconst 0 dX12_init_33 (by decide) ?_
  refine z_ldcS lsX12_21 dX12_init_34 ?_
  refine z_astn (jn := 0) (w' := kw_133) (Nat.le_of_ble_eq_true rfl) rfl (kbIn_of (by decide)) (by decide) (by decide) (Nat.le_of_ble_eq_true rfl) rfl dX12_init_36 ?_
  refine z_dup dX12_init_37 ?_
  refine z_iconst 1 dX12_init_38 (by decide) ?_
  refine z_ldcS lsX12_23 dX12_init_39 ?_
  refine z_astn (jn := 1) (w' := kw_134) (Nat.le_of_ble_eq_true rfl) rfl (kbIn_of (by decide)) (by decide) (by decide) (Nat.le_of_ble_eq_true rfl) rfl dX12_init_41 ?_
  refine z_dup dX12_init_42 ?_
  refine z_iconst 2 dX12_init_43 (by decide) ?_
  refine z_ldcS lsX12_25 dX12_init_44 ?_
  refine z_astn (jn := 2) (w' := kw_135) (Nat.le_of_ble_eq_true rfl) rfl (kbIn_of (by decide)) (by decide) (by decide) (Nat.le_of_ble_eq_true rfl) rfl dX12_init_46 ?_
  refine z_dup dX12_init_47 ?_
  refine z_iconst 3 dX12_init_48 (by decide) ?_
  refine z_ldcS lsX12_27 dX12_init_49 ?_
  refine z_astn (jn := 3) (w' := kw_136) (Nat.le_of_ble_eq_true rfl) rfl (kbIn_of (by decide)) (by decide) (by decide) (Nat.le_of_ble_eq_true rfl) rfl dX12_init_51 ?_
  refine z_put (w' := kw_137) fpX12_29 (Nat.le_of_ble_eq_true rfl) rfl (Nat.le_of_ble_eq_true rfl) rfl (fun E => ⟨rfl, rfl⟩) (Nat.le_of_ble_eq_true rfl) rfl dX12_init_52 ?_
  refine z_aload_n dX12_init_55 rfl ?_
  refine z_bipush 6 dX12_init_56 (by decide) ?_
  refine z_newq (N := 6) (w' := kw_138) nqX12_9 (by decide) (by decide) rfl (Nat.le_of_ble_eq_true rfl) (by decide) (Nat.le_of_ble_eq_true rfl) (Nat.le_of_ble_eq_true rfl) dX12_init_58 ?_
  refine z_dup dX12_init_61 ?_
  refine z_iconst 0 dX12_init_62 (by decide) ?_
  refine z_ldcS lsX12_32 dX12_init_63 ?_
  refine z_astn (jn := 0) (w' := kw_139) (Nat.le_of_ble_eq_true rfl) rfl (kbIn_of (by decide)) (by decide) (by decide) (Nat.le_of_ble_eq_true rfl) rfl dX12_init_65 ?_
  refine z_dup dX12_init_66 ?_
  refine z_iconst 1 dX12_init_67 (by decide) ?_
  refine z_ldcS lsX12_34 dX12_init_68 ?_
  refine z_astn (jn := 1) (w' := kw_140) (Nat.le_of_ble_eq_true rfl) rfl (kbIn_of (by decide)) (by decide) (by decide) (Nat.le_of_ble_eq_true rfl) rfl dX12_init_70 ?_
  refine z_dup dX12_init_71 ?_
  refine z_iconst 2 dX12_init_72 (by decide) ?_
  refine z_ldcS lsX12_36 dX12_init_73 ?_
  refine z_astn (jn := 2) (w' := kw_141) (Nat.le_of_ble_eq_true rfl) rfl (kbIn_of (by decide)) (by decide) (by decide) (Nat.le_of_ble_eq_true rfl) rfl dX12_init_75 ?_
  refine z_dup dX12_init_76 ?_
  refine z_iconst 3 dX12_init_77 (by decide) ?_
  refine z_ldcS lsX12_38 dX12_init_78 ?_
  refine z_astn (jn := 3) (w' := kw_142) (Nat.le_of_ble_eq_true rfl) rfl (kbIn_of (by decide)) (by decide) (by decide) (Nat.le_of_ble_eq_true rfl) rfl dX12_init_80 ?_
  refine z_dup dX12_init_81 ?_
  refine z_iconst 4 dX12_init_82 (by decide) ?_
  refine z_ldcS lsX12_40 dX12_init_83 ?_
  refine z_astn (jn := 4) (w' := kw_143) (Nat.le_of_ble_eq_true rfl) rfl (kbIn_of (by decide)) (by decide) (by decide) (Nat.le_of_ble_eq_true rfl) rfl dX12_init_85 ?_
  refine z_dup dX12_init_86 ?_
  refine z_iconst 5 dX12_init_87 (by decide) ?_
  refine z_ldcS lsX12_42 dX12_init_88 ?_
  refine z_astn (jn := 5) (w' := kw_144) (Nat.le_of_ble_eq_true rfl) rfl (kbIn_of (by decide)) (by decide) (by decide) (Nat.le_of_ble_eq_true rfl) rfl dX12_init_90 ?_
  refine z_put (w' := kw_145) fpX12_44 (Nat.le_of_ble_eq_true rfl) rfl (Nat.le_of_ble_eq_true rfl) rfl (fun E => ⟨rfl, rfl⟩) (Nat.le_of_ble_eq_true rfl) rfl dX12_init_91 ?_
  refine z_aload_n dX12_init_94 rfl ?_
  refine z_bipush 6 dX12_init_95 (by decide) ?_
  refine z_newa (N := 6) (w' := kw_146) (Or.inl ⟨rfl, rfl⟩) ac_int (by decide) (by decide) rfl (Nat.le_of_ble_eq_true rfl) (by decide) (Nat.le_of_ble_eq_true rfl) (Nat.le_of_ble_eq_true rfl) dX12_init_97 ?_
  refine z_put (w' := kw_147) fpX12_47 (Nat.le_of_ble_eq_true rfl) rfl (Nat.le_of_ble_eq_true rfl) rfl (fun E => ⟨rfl, rfl⟩) (Nat.le_of_ble_eq_true rfl) rfl dX12_init_99 ?_
  refine z_aload_n dX12_init_102 rfl ?_
  refine z_bipush 20 dX12_init_103 (by decide) ?_
  refine z_newa (N := 20) (w' := kw_148) (Or.inl ⟨rfl, rfl⟩) ac_int (by decide) (by decide) rfl (Nat.le_of_ble_eq_true rfl) (by decide) (Nat.le_of_ble_eq_true rfl) (Nat.le_of_ble_eq_true rfl) dX12_init_105 ?_
  refine z_put (w' := kw_149) fpX12_51 (Nat.le_of_ble_eq_true rfl) rfl (Nat.le_of_ble_eq_true rfl) rfl (fun E => ⟨rfl, rfl⟩) (Nat.le_of_ble_eq_true rfl) rfl dX12_init_107 ?_
  refine z_aload_n dX12_init_110 rfl ?_
  refine z_bipush 20 dX12_init_111 (by decide) ?_
  refine z_newa (N := 20) (w' := kw_150) (Or.inl ⟨rfl, rfl⟩) ac_int (by decide) (by decide) rfl (Nat.le_of_ble_eq_true rfl) (by decide) (Nat.le_of_ble_eq_true rfl) (Nat.le_of_ble_eq_true rfl) dX12_init_113 ?_
  refine z_put (w' := kw_151) fpX12_54 (Nat.le_of_ble_eq_true rfl) rfl (Nat.le_of_ble_eq_true rfl) rfl (fun E => ⟨rfl, rfl⟩) (Nat.le_of_ble_eq_true rfl) rfl dX12_init_115 ?_
  refine z_aload_n dX12_init_118 rfl ?_
  refine z_bipush 20 dX12_init_119 (by decide) ?_
  refine z_newa (N := 20) (w' := kw_152) (Or.inl ⟨rfl, rfl⟩) ac_int (by decide) (by decide) rfl (Nat.le_of_ble_eq_true rfl) (by decide) (Nat.le_of_ble_eq_true rfl) (Nat.le_of_ble_eq_true rfl) dX12_init_121 ?_
  refine z_put (w' := kw_153) fpX12_57 (Nat.le_of_ble_eq_true rfl) rfl (Nat.le_of_ble_eq_true rfl) rfl (fun E => ⟨rfl, rfl⟩) (Nat.le_of_ble_eq_true rfl) rfl dX12_init_123 ?_
  refine z_aload_n dX12_init_126 rfl ?_
  refine z_bipush 12 dX12_init_127 (by decide) ?_
  refine z_newa (N := 12) (w' := kw_154) (Or.inl ⟨rfl, rfl⟩) ac_int (by decide) (by decide) rfl (Nat.le_of_ble_eq_true rfl) (by decide) (Nat.le_of_ble_eq_true rfl) (Nat.le_of_ble_eq_true rfl) dX12_init_129 ?_
  refine z_put (w' := kw_155) fpX12_60 (Nat.le_of_ble_eq_true rfl) rfl (Nat.le_of_ble_eq_true rfl) rfl (fun E => ⟨rfl, rfl⟩) (Nat.le_of_ble_eq_true rfl) rfl dX12_init_131 ?_
  refine z_aload_n dX12_init_134 rfl ?_
  refine z_bipush 12 dX12_init_135 (by decide) ?_
  refine z_newa (N := 12) (w' := kw_156) (Or.inl ⟨rfl, rfl⟩) ac_int (by decide) (by decide) rfl (Nat.le_of_ble_eq_true rfl) (by decide) (Nat.le_of_ble_eq_true rfl) (Nat.le_of_ble_eq_true rfl) dX12_init_137 ?_
  refine z_put (w' := kw_157) fpX12_63 (Nat.le_of_ble_eq_true rfl) rfl (Nat.le_of_ble_eq_true rfl) rfl (fun E => ⟨rfl, rfl⟩) (Nat.le_of_ble_eq_true rfl) rfl dX12_init_139 ?_
  refine z_aload_n dX12_init_142 rfl ?_
  refine z_sipush 1200 dX12_init_143 (by decide) ?_
  refine z_newa (N := 1200) (w' := kw_158) (Or.inl ⟨rfl, rfl⟩) ac_int (by decide) (by decide) rfl (Nat.le_of_ble_eq_true rfl) (by decide) (Nat.le_of_ble_eq_true rfl) (Nat.le_of_ble_eq_true rfl) dX12_init_146 ?_
  refine z_put (w' := kw_159) fpX12_66 (Nat.le_of_ble_eq_true rfl) rfl (Nat.le_of_ble_eq_true rfl) rfl (fun E => ⟨rfl, rfl⟩) (Nat.le_of_ble_eq_true rfl) rfl dX12_init_148 ?_
  refine z_aload_n dX12_init_151 rfl ?_
  refine z_iconst 3 dX12_init_152 (by decide) ?_
  refine z_newa (N := 3) (w' := kw_160) (Or.inl ⟨rfl, rfl⟩) ac_int (by decide) (by decide) rfl (Nat.le_of_ble_eq_true rfl) (by decide) (Nat.le_of_ble_eq_true rfl) (Nat.le_of_ble_eq_true rfl) dX12_init_153 ?_
  refine z_put (w' := kw_161) fpX12_69 (Nat.le_of_ble_eq_true rfl) rfl (Nat.le_of_ble_eq_true rfl) rfl (fun E => ⟨rfl, rfl⟩) (Nat.le_of_ble_eq_true rfl) rfl dX12_init_155 ?_
  refine z_aload_n dX12_init_158 rfl ?_
  refine z_sipush 600 dX12_init_159 (by decide) ?_
  refine z_newa (N := 600) (w' := kw_162) (Or.inl ⟨rfl, rfl⟩) ac_int (by decide) (by decide) rfl (Nat.le_of_ble_eq_true rfl) (by decide) (Nat.le_of_ble_eq_true rfl) (Nat.le_of_ble_eq_true rfl) dX12_init_162 ?_
  refine z_put (w' := kw_163) fpX12_72 (Nat.le_of_ble_eq_true rfl) rfl (Nat.le_of_ble_eq_true rfl) rfl (fun E => ⟨rfl, rfl⟩) (Nat.le_of_ble_eq_true rfl) rfl dX12_init_164 ?_
  refine z_aload_n dX12_init_167 rfl ?_
  refine z_iconst (-1) dX12_init_168 (by decide) ?_
  refine z_put (w' := kw_164) fpX12_75 (Nat.le_of_ble_eq_true rfl) rfl (Nat.le_of_ble_eq_true rfl) rfl (fun E => ⟨rfl, rfl⟩) (Nat.le_of_ble_eq_true rfl) rfl dX12_init_169 ?_
  refine z_aload_n dX12_init_172 rfl ?_
  refine z_bipush 10 dX12_init_173 (by decide) ?_
  refine z_newa (N := 10) (w' := kw_165) (Or.inl ⟨rfl, rfl⟩) ac_int (by decide) (by decide) rfl (Nat.le_of_ble_eq_true rfl) (by decide) (Nat.le_of_ble_eq_true rfl) (Nat.le_of_ble_eq_true rfl) dX12_init_175 ?_
  refine z_put (w' := kw_166) fpX12_79 (Nat.le_of_ble_eq_true rfl) rfl (Nat.le_of_ble_eq_true rfl) rfl (fun E => ⟨rfl, rfl⟩) (Nat.le_of_ble_eq_true rfl) rfl dX12_init_177 ?_
  refine z_aload_n dX12_init_180 rfl ?_
  refine z_bipush 10 dX12_init_181 (by decide) ?_
  refine z_newa (N := 10) (w' := kw_167) (Or.inl ⟨rfl, rfl⟩) ac_int (by decide) (by decide) rfl (Nat.le_of_ble_eq_true rfl) (by decide) (Nat.le_of_ble_eq_true rfl) (Nat.le_of_ble_eq_true rfl) dX12_init_183 ?_
  refine z_put (w' := kw_168) fpX12_82 (Nat.le_of_ble_eq_true rfl) rfl (Nat.le_of_ble_eq_true rfl) rfl (fun E => ⟨rfl, rfl⟩) (Nat.le_of_ble_eq_true rfl) rfl dX12_init_185 ?_
  refine z_aload_n dX12_init_188 rfl ?_
  refine z_bipush 10 dX12_init_189 (by decide) ?_
  refine z_newa (N := 10) (w' := kw_169) (Or.inl ⟨rfl, rfl⟩) ac_int (by decide) (by decide) rfl (Nat.le_of_ble_eq_true rfl) (by decide) (Nat.le_of_ble_eq_true rfl) (Nat.le_of_ble_eq_true rfl) dX12_init_191 ?_
  refine z_put (w' := kw_170) fpX12_85 (Nat.le_of_ble_eq_true rfl) rfl (Nat.le_of_ble_eq_true rfl) rfl (fun E => ⟨rfl, rfl⟩) (Nat.le_of_ble_eq_true rfl) rfl dX12_init_193 ?_
  refine z_aload_n dX12_init_196 rfl ?_
  refine z_sipush 1280 dX12_init_197 (by decide) ?_
  refine z_newa (N := 1280) (w' := kw_171) (Or.inl ⟨rfl, rfl⟩) ac_int (by decide) (by decide) rfl (Nat.le_of_ble_eq_true rfl) (by decide) (Nat.le_of_ble_eq_true rfl) (Nat.le_of_ble_eq_true rfl) dX12_init_200 ?_
  refine z_put (w' := kw_172) fpX12_88 (Nat.le_of_ble_eq_true rfl) rfl (Nat.le_of_ble_eq_true rfl) rfl (fun E => ⟨rfl, rfl⟩) (Nat.le_of_ble_eq_true rfl) rfl dX12_init_202 ?_
  refine z_aload_n dX12_init_205 rfl ?_
  refine z_bipush 6 dX12_init_206 (by decide) ?_
  refine z_newa (N := 6) (w' := kw_173) (Or.inl ⟨rfl, rfl⟩) ac_int (by decide) (by decide) rfl (Nat.le_of_ble_eq_true rfl) (by decide) (Nat.le_of_ble_eq_true rfl) (Nat.le_of_ble_eq_true rfl) dX12_init_208 ?_
  refine z_put (w' := kw_174) fpX12_91 (Nat.le_of_ble_eq_true rfl) rfl (Nat.le_of_ble_eq_true rfl) rfl (fun E => ⟨rfl, rfl⟩) (Nat.le_of_ble_eq_true rfl) rfl dX12_init_210 ?_
  refine z_aload_n dX12_init_213 rfl ?_
  refine z_bipush 64 dX12_init_214 (by decide) ?_
  refine z_newa (N := 64) (w' := kw_175) (Or.inl ⟨rfl, rfl⟩) ac_int (by decide) (by decide) rfl (Nat.le_of_ble_eq_true rfl) (by decide) (Nat.le_of_ble_eq_true rfl) (Nat.le_of_ble_eq_true rfl) dX12_init_216 ?_
  refine z_put (w' := kw_176) fpX12_94 (Nat.le_of_ble_eq_true rfl) rfl (Nat.le_of_ble_eq_true rfl) rfl (fun E => ⟨rfl, rfl⟩) (Nat.le_of_ble_eq_true rfl) rfl dX12_init_218 ?_
  refine z_aload_n dX12_init_221 rfl ?_
  refine z_bipush 12 dX12_init_222 (by decide) ?_
  refine z_newa (N := 12) (w' := kw_177) (Or.inl ⟨rfl, rfl⟩) ac_int (by decide) (by decide) rfl (Nat.le_of_ble_eq_true rfl) (by decide) (Nat.le_of_ble_eq_true rfl) (Nat.le_of_ble_eq_true rfl) dX12_init_224 ?_
  refine z_put (w' := kw_178) fpX12_97 (Nat.le_of_ble_eq_true rfl) rfl (Nat.le_of_ble_eq_true rfl) rfl (fun E => ⟨rfl, rfl⟩) (Nat.le_of_ble_eq_true rfl) rfl dX12_init_226 ?_
  refine z_aload_n dX12_init_229 rfl ?_
  refine z_sipush 143 dX12_init_230 (by decide) ?_
  refine z_newa (N := 143) (w' := kw_179) (Or.inl ⟨rfl, rfl⟩) ac_int (by decide) (by decide) rfl (Nat.le_of_ble_eq_true rfl) (by decide) (Nat.le_of_ble_eq_true rfl) (Nat.le_of_ble_eq_true rfl) dX12_init_233 ?_
  refine z_put (w' := kw_180) fpX12_100 (Nat.le_of_ble_eq_true rfl) rfl (Nat.le_of_ble_eq_true rfl) rfl (fun E => ⟨rfl, rfl⟩) (Nat.le_of_ble_eq_true rfl) rfl dX12_init_235 ?_
  refine z_aload_n dX12_init_238 rfl ?_
  refine z_bipush 60 dX12_init_239 (by decide) ?_
  refine z_newa (N := 60) (w' := kw_181) (Or.inl ⟨rfl, rfl⟩) ac_int (by decide) (by decide) rfl (Nat.le_of_ble_eq_true rfl) (by decide) (Nat.le_of_ble_eq_true rfl) (Nat.le_of_ble_eq_true rfl) dX12_init_241 ?_
  refine z_put (w' := kw_182) fpX12_103 (Nat.le_of_ble_eq_true rfl) rfl (Nat.le_of_ble_eq_true rfl) rfl (fun E => ⟨rfl, rfl⟩) (Nat.le_of_ble_eq_true rfl) rfl dX12_init_243 ?_
  refine z_aload_n dX12_init_246 rfl ?_
  refine z_bipush 10 dX12_init_247 (by decide) ?_
  refine z_newa (N := 10) (w' := kw_183) (Or.inl ⟨rfl, rfl⟩) ac_int (by decide) (by decide) rfl (Nat.le_of_ble_eq_true rfl) (by decide) (Nat.le_of_ble_eq_true rfl) (Nat.le_of_ble_eq_true rfl) dX12_init_249 ?_
  refine z_put (w' := kw_184) fpX12_106 (Nat.le_of_ble_eq_true rfl) rfl (Nat.le_of_ble_eq_true rfl) rfl (fun E => ⟨rfl, rfl⟩) (Nat.le_of_ble_eq_true rfl) rfl dX12_init_251 ?_
  refine z_aload_n dX12_init_254 rfl ?_
  refine z_sipush 143 dX12_init_255 (by decide) ?_
  refine z_newa (N := 143) (w' := kw_185) (Or.inr (Or.inl ⟨rfl, rfl⟩)) ac_long (by decide) (by decide) rfl (Nat.le_of_ble_eq_true rfl) (by decide) (Nat.le_of_ble_eq_true rfl) (Nat.le_of_ble_eq_true rfl) dX12_init_258 ?_
  refine z_put (w' := kw_186) fpX12_109 (Nat.le_of_ble_eq_true rfl) rfl (Nat.le_of_ble_eq_true rfl) rfl (fun E => ⟨rfl, rfl⟩) (Nat.le_of_ble_eq_true rfl) rfl dX12_init_260 ?_
  refine z_aload_n dX12_init_263 rfl ?_
  refine z_sipush 169 dX12_init_264 (by decide) ?_
  refine z_newa (N := 169) (w' := kw_187) (Or.inl ⟨rfl, rfl⟩) ac_int (by decide) (by decide) rfl (Nat.le_of_ble_eq_true rfl) (by decide) (Nat.le_of_ble_eq_true rfl) (Nat.le_of_ble_eq_true rfl) dX12_init_267 ?_
  refine z_put (w' := kw_188) fpX12_113 (Nat.le_of_ble_eq_true rfl) rfl (Nat.le_of_ble_eq_true rfl) rfl (fun E => ⟨rfl, rfl⟩) (Nat.le_of_ble_eq_true rfl) rfl dX12_init_269 ?_
  refine z_aload_n dX12_init_272 rfl ?_
  refine z_bipush 12 dX12_init_273 (by decide) ?_
  refine z_newa (N := 12) (w' := kw_189) (Or.inl ⟨rfl, rfl⟩) ac_int (by decide) (by decide) rfl (Nat.le_of_ble_eq_true rfl) (by decide) (Nat.le_of_ble_eq_true rfl) (Nat.le_of_ble_eq_true rfl) dX12_init_275 ?_
  refine z_put (w' := kw_190) fpX12_116 (Nat.le_of_ble_eq_true rfl) rfl (Nat.le_of_ble_eq_true rfl) rfl (fun E => ⟨rfl, rfl⟩) (Nat.le_of_ble_eq_true rfl) rfl dX12_init_277 ?_
  refine z_aload_n dX12_init_280 rfl ?_
  refine z_bipush 12 dX12_init_281 (by decide) ?_
  refine z_newa (N := 12) (w' := kw_191) (Or.inl ⟨rfl, rfl⟩) ac_int (by decide) (by decide) rfl (Nat.le_of_ble_eq_true rfl) (by decide) (Nat.le_of_ble_eq_true rfl) (Nat.le_of_ble_eq_true rfl) dX12_init_283 ?_
  refine z_put (w' := kw_192) fpX12_118 (Nat.le_of_ble_eq_true rfl) rfl (Nat.le_of_ble_eq_true rfl) rfl (fun E => ⟨rfl, rfl⟩) (Nat.le_of_ble_eq_true rfl) rfl dX12_init_285 ?_
  refine z_aload_n dX12_init_288 rfl ?_
  refine z_bipush 70 dX12_init_289 (by decide) ?_
  refine z_newa (N := 70) (w' := kw_193) (Or.inl ⟨rfl, rfl⟩) ac_int (by decide) (by decide) rfl (Nat.le_of_ble_eq_true rfl) (by decide) (Nat.le_of_ble_eq_true rfl) (Nat.le_of_ble_eq_true rfl) dX12_init_291 ?_
  refine z_put (w' := kw_194) fpX12_120 (Nat.le_of_ble_eq_true rfl) rfl (Nat.le_of_ble_eq_true rfl) rfl (fun E => ⟨rfl, rfl⟩) (Nat.le_of_ble_eq_true rfl) rfl dX12_init_293 ?_
  refine z_aload_n dX12_init_296 rfl ?_
  refine z_bipush 70 dX12_init_297 (by decide) ?_
  refine z_newa (N := 70) (w' := kw_195) (Or.inl ⟨rfl, rfl⟩) ac_int (by decide) (by decide) rfl (Nat.le_of_ble_eq_true rfl) (by decide) (Nat.le_of_ble_eq_true rfl) (Nat.le_of_ble_eq_true rfl) dX12_init_299 ?_
  refine z_put (w' := kw_196) fpX12_123 (Nat.le_of_ble_eq_true rfl) rfl (Nat.le_of_ble_eq_true rfl) rfl (fun E => ⟨rfl, rfl⟩) (Nat.le_of_ble_eq_true rfl) rfl dX12_init_301 ?_
  refine z_aload_n dX12_init_304 rfl ?_
  refine z_sipush 3125 dX12_init_305 (by decide) ?_
  refine z_newa (N := 3125) (w' := kw_197) (Or.inl ⟨rfl, rfl⟩) ac_int (by decide) (by decide) rfl (Nat.le_of_ble_eq_true rfl) (by decide) (Nat.le_of_ble_eq_true rfl) (Nat.le_of_ble_eq_true rfl) dX12_init_308 ?_
  refine z_put (w' := kw_198) fpX12_126 (Nat.le_of_ble_eq_true rfl) rfl (Nat.le_of_ble_eq_true rfl) rfl (fun E => ⟨rfl, rfl⟩) (Nat.le_of_ble_eq_true rfl) rfl dX12_init_310 ?_
  refine z_aload_n dX12_init_313 rfl ?_
  refine z_sipush 130 dX12_init_314 (by decide) ?_
  refine z_newa (N := 130) (w' := kw_199) (Or.inl ⟨rfl, rfl⟩) ac_int (by decide) (by decide) rfl (Nat.le_of_ble_eq_true rfl) (by decide) (Nat.le_of_ble_eq_true rfl) (Nat.le_of_ble_eq_true rfl) dX12_init_317 ?_
  refine z_put (w' := kw_200) fpX12_129 (Nat.le_of_ble_eq_true rfl) rfl (Nat.le_of_ble_eq_true rfl) rfl (fun E => ⟨rfl, rfl⟩) (Nat.le_of_ble_eq_true rfl) rfl dX12_init_319 ?_
  refine z_aload_n dX12_init_322 rfl ?_
  refine z_sipush 130 dX12_init_323 (by decide) ?_
  refine z_newa (N := 130) (w' := kw_201) (Or.inr (Or.inl ⟨rfl, rfl⟩)) ac_long (by decide) (by decide) rfl (Nat.le_of_ble_eq_true rfl) (by decide) (Nat.le_of_ble_eq_true rfl) (Nat.le_of_ble_eq_true rfl) dX12_init_326 ?_
  refine z_put (w' := kw_202) fpX12_132 (Nat.le_of_ble_eq_true rfl) rfl (Nat.le_of_ble_eq_true rfl) rfl (fun E => ⟨rfl, rfl⟩) (Nat.le_of_ble_eq_true rfl) rfl dX12_init_328 ?_
  refine z_aload_n dX12_init_331 rfl ?_
  refine z_bipush 8 dX12_init_332 (by decide) ?_
  refine z_newa (N := 8) (w' := kw_203) (Or.inl ⟨rfl, rfl⟩) ac_int (by decide) (by decide) rfl (Nat.le_of_ble_eq_true rfl) (by decide) (Nat.le_of_ble_eq_true rfl) (Nat.le_of_ble_eq_true rfl) dX12_init_334 ?_
  refine z_put (w' := kw_204) fpX12_135 (Nat.le_of_ble_eq_true rfl) rfl (Nat.le_of_ble_eq_true rfl) rfl (fun E => ⟨rfl, rfl⟩) (Nat.le_of_ble_eq_true rfl) rfl dX12_init_336 ?_
  refine z_aload_n dX12_init_339 rfl ?_
  refine z_bipush 8 dX12_init_340 (by decide) ?_
  refine z_newa (N := 8) (w' := kw_205) (Or.inl ⟨rfl, rfl⟩) ac_int (by decide) (by decide) rfl (Nat.le_of_ble_eq_true rfl) (by decide) (Nat.le_of_ble_eq_true rfl) (Nat.le_of_ble_eq_true rfl) dX12_init_342 ?_
  refine z_put (w' := kw_206) fpX12_138 (Nat.le_of_ble_eq_true rfl) rfl (Nat.le_of_ble_eq_true rfl) rfl (fun E => ⟨rfl, rfl⟩) (Nat.le_of_ble_eq_true rfl) rfl dX12_init_344 ?_
  refine z_aload_n dX12_init_347 rfl ?_
  refine z_bipush 20 dX12_init_348 (by decide) ?_
  refine z_newa (N := 20) (w' := kw_207) (Or.inl ⟨rfl, rfl⟩) ac_int (by decide) (by decide) rfl (Nat.le_of_ble_eq_true rfl) (by decide) (Nat.le_of_ble_eq_true rfl) (Nat.le_of_ble_eq_true rfl) dX12_init_350 ?_
  refine z_put (w' := kw_208) fpX12_141 (Nat.le_of_ble_eq_true rfl) rfl (Nat.le_of_ble_eq_true rfl) rfl (fun E => ⟨rfl, rfl⟩) (Nat.le_of_ble_eq_true rfl) rfl dX12_init_352 ?_
  refine z_aload_n dX12_init_355 rfl ?_
  refine z_bipush 32 dX12_init_356 (by decide) ?_
  refine z_newa (N := 32) (w' := kw_209) (Or.inl ⟨rfl, rfl⟩) ac_int (by decide) (by decide) rfl (Nat.le_of_ble_eq_true rfl) (by decide) (Nat.le_of_ble_eq_true rfl) (Nat.le_of_ble_eq_true rfl) dX12_init_358 ?_
  refine z_put (w' := kw_210) fpX12_144 (Nat.le_of_ble_eq_true rfl) rfl (Nat.le_of_ble_eq_true rfl) rfl (fun E => ⟨rfl, rfl⟩) (Nat.le_of_ble_eq_true rfl) rfl dX12_init_360 ?_
  refine z_aload_n dX12_init_363 rfl ?_
  refine z_sipush 1280 dX12_init_364 (by decide) ?_
  refine z_newa (N := 1280) (w' := kw_211) (Or.inl ⟨rfl, rfl⟩) ac_int (by decide) (by decide) rfl (Nat.le_of_ble_eq_true rfl) (by decide) (Nat.le_of_ble_eq_true rfl) (Nat.le_of_ble_eq_true rfl) dX12_init_367 ?_
  refine z_put (w' := kw_212) fpX12_147 (Nat.le_of_ble_eq_true rfl) rfl (Nat.le_of_ble_eq_true rfl) rfl (fun E => ⟨rfl, rfl⟩) (Nat.le_of_ble_eq_true rfl) rfl dX12_init_369 ?_
  refine z_aload_n dX12_init_372 rfl ?_
  refine z_bipush 8 dX12_init_373 (by decide) ?_
  refine z_newa (N := 8) (w' := kw_213) (Or.inl ⟨rfl, rfl⟩) ac_int (by decide) (by decide) rfl (Nat.le_of_ble_eq_true rfl) (by decide) (Nat.le_of_ble_eq_true rfl) (Nat.le_of_ble_eq_true rfl) dX12_init_375 ?_
  refine z_put (w' := kw_214) fpX12_150 (Nat.le_of_ble_eq_true rfl) rfl (Nat.le_of_ble_eq_true rfl) rfl (fun E => ⟨rfl, rfl⟩) (Nat.le_of_ble_eq_true rfl) rfl dX12_init_377 ?_
  refine z_aload_n dX12_init_380 rfl ?_
  refine z_bipush 8 dX12_init_381 (by decide) ?_
  refine z_newa (N := 8) (w' := kw_215) (Or.inl ⟨rfl, rfl⟩) ac_int (by decide) (by decide) rfl (Nat.le_of_ble_eq_true rfl) (by decide) (Nat.le_of_ble_eq_true rfl) (Nat.le_of_ble_eq_true rfl) dX12_init_383 ?_
  refine z_put (w' := kw_216) fpX12_153 (Nat.le_of_ble_eq_true rfl) rfl (Nat.le_of_ble_eq_true rfl) rfl (fun E => ⟨rfl, rfl⟩) (Nat.le_of_ble_eq_true rfl) rfl dX12_init_385 ?_
  refine z_aload_n dX12_init_388 rfl ?_
  refine z_iconst 3 dX12_init_389 (by decide) ?_
  refine z_newa (N := 3) (w' := kw_217) (Or.inl ⟨rfl, rfl⟩) ac_int (by decide) (by decide) rfl (Nat.le_of_ble_eq_true rfl) (by decide) (Nat.le_of_ble_eq_true rfl) (Nat.le_of_ble_eq_true rfl) dX12_init_390 ?_
  refine z_put (w' := kw_218) fpX12_156 (Nat.le_of_ble_eq_true rfl) rfl (Nat.le_of_ble_eq_true rfl) rfl (fun E => ⟨rfl, rfl⟩) (Nat.le_of_ble_eq_true rfl) rfl dX12_init_392 ?_
  exact z_vret rfl (Nat.le_of_ble_eq_true rfl) (Nat.le_of_ble_eq_true rfl) dX12_init_395
