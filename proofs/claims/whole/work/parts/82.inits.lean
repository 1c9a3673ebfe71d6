set_option maxRecDepth 100000 in
theorem hI_int : Cond.arrayClass .int ∈ T1 := T1_in1 (i := 40) rfl rfl
set_option maxRecDepth 100000 in
theorem obW : Cond.instanceMethod Lib.objectInit ∈ T1 ∧ Cond.code Lib.objectInit ⟨#[0xb1]⟩ 1 none ∈ T1 := ⟨T1_in1 (i := 18) rfl rfl, T1_in1 (i := 19) rfl rfl⟩
def pm_Shelf_init : List PE := [(0, 1, .aload_n (0), 0, 0, 0, 0),
  (1, 3, .invokespecial (1), 0, 0, 0, 0),
  (4, 1, .aload_n (0), 0, 0, 0, 0),
  (5, 1, .iload_n (2), 0, 0, 0, 0),
  (6, 3, .putfield (7), 4, 0, 0, 0),
  (9, 1, .aload_n (0), 0, 0, 0, 0),
  (10, 1, .iload_n (1), 0, 0, 0, 0),
  (11, 2, .newarray .int, 0, 0, 0, 0),
  (13, 3, .putfield (13), 4, 1, 0, 0),
  (16, 1, .aload_n (0), 0, 0, 0, 0),
  (17, 1, .iload_n (1), 0, 0, 0, 0),
  (18, 1, .iload_n (2), 0, 0, 0, 0),
  (19, 1, .imul, 0, 0, 0, 0),
  (20, 2, .newarray .int, 0, 0, 0, 0),
  (22, 3, .putfield (17), 4, 2, 0, 0),
  (25, 1, .aload_n (0), 0, 0, 0, 0),
  (26, 3, .getfield (13), 4, 1, 0, 0),
  (29, 1, .iconst (-1), 0, 0, (-1), 0),
  (30, 3, .invokestatic (20), 0, 0, 0, 0),
  (33, 1, .return_, 0, 0, 0, 0)]
def md_Shelf_init : Md := (y_Shelf_init, prog_6_method_1_code, 3, none, pm_Shelf_init)
theorem tk_Shelf_init : Tm md_Shelf_init := tab_of (o := 4) (by decide +kernel)
set_option maxRecDepth 100000 in
theorem oki_Shelf : MdI md_Shelf_init 2 := ⟨T1_in1 (i := 24) rfl rfl, T1_in1 (i := 2) rfl rfl, rfl, T1_in1 (i := 23) rfl rfl, ⟨by decide +kernel, by decide +kernel⟩, by decide +kernel, by decide⟩
theorem di_Shelf_0 : decode md_Shelf_init.2.1 0 = .ok (.aload_n (0), 1) := (dec_at tk_Shelf_init (pc1 := 0) rfl rfl).1
theorem di_Shelf_1 : decode md_Shelf_init.2.1 1 = .ok (.invokespecial (1), 3) := (dec_at tk_Shelf_init (pc1 := 1) rfl rfl).1
theorem di_Shelf_4 : decode md_Shelf_init.2.1 4 = .ok (.aload_n (0), 1) := (dec_at tk_Shelf_init (pc1 := 4) rfl rfl).1
theorem di_Shelf_5 : decode md_Shelf_init.2.1 5 = .ok (.iload_n (2), 1) := (dec_at tk_Shelf_init (pc1 := 5) rfl rfl).1
theorem di_Shelf_6 : decode md_Shelf_init.2.1 6 = .ok (.putfield (7), 3) := (dec_at tk_Shelf_init (pc1 := 6) rfl rfl).1
theorem df_Shelf_6 : fldW md_Shelf_init.1.cls 7 4 0 := (dec_at tk_Shelf_init (pc1 := 6) rfl rfl).2
theorem di_Shelf_9 : decode md_Shelf_init.2.1 9 = .ok (.aload_n (0), 1) := (dec_at tk_Shelf_init (pc1 := 9) rfl rfl).1
theorem di_Shelf_10 : decode md_Shelf_init.2.1 10 = .ok (.iload_n (1), 1) := (dec_at tk_Shelf_init (pc1 := 10) rfl rfl).1
theorem di_Shelf_11 : decode md_Shelf_init.2.1 11 = .ok (.newarray .int, 2) := (dec_at tk_Shelf_init (pc1 := 11) rfl rfl).1
theorem di_Shelf_13 : decode md_Shelf_init.2.1 13 = .ok (.putfield (13), 3) := (dec_at tk_Shelf_init (pc1 := 13) rfl rfl).1
theorem df_Shelf_13 : fldW md_Shelf_init.1.cls 13 4 1 := (dec_at tk_Shelf_init (pc1 := 13) rfl rfl).2
theorem di_Shelf_16 : decode md_Shelf_init.2.1 16 = .ok (.aload_n (0), 1) := (dec_at tk_Shelf_init (pc1 := 16) rfl rfl).1
theorem di_Shelf_17 : decode md_Shelf_init.2.1 17 = .ok (.iload_n (1), 1) := (dec_at tk_Shelf_init (pc1 := 17) rfl rfl).1
theorem di_Shelf_18 : decode md_Shelf_init.2.1 18 = .ok (.iload_n (2), 1) := (dec_at tk_Shelf_init (pc1 := 18) rfl rfl).1
theorem di_Shelf_19 : decode md_Shelf_init.2.1 19 = .ok (.imul, 1) := (dec_at tk_Shelf_init (pc1 := 19) rfl rfl).1
theorem di_Shelf_20 : decode md_Shelf_init.2.1 20 = .ok (.newarray .int, 2) := (dec_at tk_Shelf_init (pc1 := 20) rfl rfl).1
theorem di_Shelf_22 : decode md_Shelf_init.2.1 22 = .ok (.putfield (17), 3) := (dec_at tk_Shelf_init (pc1 := 22) rfl rfl).1
theorem df_Shelf_22 : fldW md_Shelf_init.1.cls 17 4 2 := (dec_at tk_Shelf_init (pc1 := 22) rfl rfl).2
theorem di_Shelf_25 : decode md_Shelf_init.2.1 25 = .ok (.aload_n (0), 1) := (dec_at tk_Shelf_init (pc1 := 25) rfl rfl).1
theorem di_Shelf_26 : decode md_Shelf_init.2.1 26 = .ok (.getfield (13), 3) := (dec_at tk_Shelf_init (pc1 := 26) rfl rfl).1
theorem df_Shelf_26 : fldW md_Shelf_init.1.cls 13 4 1 := (dec_at tk_Shelf_init (pc1 := 26) rfl rfl).2
theorem di_Shelf_29 : decode md_Shelf_init.2.1 29 = .ok (.iconst (-1), 1) := (dec_at tk_Shelf_init (pc1 := 29) rfl rfl).1
theorem di_Shelf_30 : decode md_Shelf_init.2.1 30 = .ok (.invokestatic (20), 3) := (dec_at tk_Shelf_init (pc1 := 30) rfl rfl).1
theorem di_Shelf_33 : decode md_Shelf_init.2.1 33 = .ok (.return_, 1) := (dec_at tk_Shelf_init (pc1 := 33) rfl rfl).1
def pm_Camp_init : List PE := [(0, 1, .aload_n (0), 0, 0, 0, 0),
  (1, 3, .invokespecial (5), 0, 0, 0, 0),
  (4, 1, .aload_n (0), 0, 0, 0, 0),
  (5, 2, .bipush (8), 0, 0, 8, 0),
  (7, 2, .newarray .int, 0, 0, 0, 0),
  (9, 3, .putfield (11), 0, 0, 0, 0),
  (12, 1, .aload_n (0), 0, 0, 0, 0),
  (13, 1, .iconst (5), 0, 0, 5, 0),
  (14, 2, .newarray .int, 0, 0, 0, 0),
  (16, 3, .putfield (15), 0, 1, 0, 0),
  (19, 1, .aload_n (0), 0, 0, 0, 0),
  (20, 1, .iconst (5), 0, 0, 5, 0),
  (21, 2, .newarray .int, 0, 0, 0, 0),
  (23, 3, .putfield (18), 0, 2, 0, 0),
  (26, 1, .aload_n (0), 0, 0, 0, 0),
  (27, 1, .iconst (5), 0, 0, 5, 0),
  (28, 2, .newarray .int, 0, 0, 0, 0),
  (30, 3, .putfield (21), 0, 3, 0, 0),
  (33, 1, .aload_n (0), 0, 0, 0, 0),
  (34, 1, .iconst (5), 0, 0, 5, 0),
  (35, 2, .newarray .int, 0, 0, 0, 0),
  (37, 3, .putfield (24), 0, 4, 0, 0),
  (40, 1, .aload_n (0), 0, 0, 0, 0),
  (41, 1, .iconst (5), 0, 0, 5, 0),
  (42, 2, .newarray .int, 0, 0, 0, 0),
  (44, 3, .putfield (27), 0, 5, 0, 0),
  (47, 1, .aload_n (0), 0, 0, 0, 0),
  (48, 1, .iconst (5), 0, 0, 5, 0),
  (49, 2, .newarray .int, 0, 0, 0, 0),
  (51, 3, .putfield (30), 0, 6, 0, 0),
  (54, 1, .aload_n (0), 0, 0, 0, 0),
  (55, 1, .iconst (5), 0, 0, 5, 0),
  (56, 2, .newarray .int, 0, 0, 0, 0),
  (58, 3, .putfield (33), 0, 7, 0, 0),
  (61, 1, .aload_n (0), 0, 0, 0, 0),
  (62, 1, .iconst (5), 0, 0, 5, 0),
  (63, 2, .newarray .int, 0, 0, 0, 0),
  (65, 3, .putfield (36), 0, 8, 0, 0),
  (68, 1, .aload_n (0), 0, 0, 0, 0),
  (69, 1, .iload_n (1), 0, 0, 0, 0),
  (70, 2, .bipush (25), 0, 0, 25, 0),
  (72, 1, .imul, 0, 0, 0, 0),
  (73, 2, .newarray .int, 0, 0, 0, 0),
  (75, 3, .putfield (39), 0, 9, 0, 0),
  (78, 1, .return_, 0, 0, 0, 0)]
def md_Camp_init : Md := (y_Camp_init, prog_2_method_1_code, 2, none, pm_Camp_init)
theorem tk_Camp_init : Tm md_Camp_init := tab_of (o := 0) (by decide +kernel)
set_option maxRecDepth 100000 in
theorem oki_Camp : MdI md_Camp_init 1 := ⟨T1_in1 (i := 45) rfl rfl, T1_in1 (i := 4) rfl rfl, rfl, T1_in1 (i := 44) rfl rfl, ⟨by decide +kernel, by decide +kernel⟩, by decide +kernel, by decide⟩
theorem di_Camp_0 : decode md_Camp_init.2.1 0 = .ok (.aload_n (0), 1) := (dec_at tk_Camp_init (pc1 := 0) rfl rfl).1
theorem di_Camp_1 : decode md_Camp_init.2.1 1 = .ok (.invokespecial (5), 3) := (dec_at tk_Camp_init (pc1 := 1) rfl rfl).1
theorem di_Camp_4 : decode md_Camp_init.2.1 4 = .ok (.aload_n (0), 1) := (dec_at tk_Camp_init (pc1 := 4) rfl rfl).1
theorem di_Camp_5 : decode md_Camp_init.2.1 5 = .ok (.bipush (8), 2) := (dec_at tk_Camp_init (pc1 := 5) rfl rfl).1
theorem di_Camp_7 : decode md_Camp_init.2.1 7 = .ok (.newarray .int, 2) := (dec_at tk_Camp_init (pc1 := 7) rfl rfl).1
theorem di_Camp_9 : decode md_Camp_init.2.1 9 = .ok (.putfield (11), 3) := (dec_at tk_Camp_init (pc1 := 9) rfl rfl).1
theorem df_Camp_9 : fldW md_Camp_init.1.cls 11 0 0 := (dec_at tk_Camp_init (pc1 := 9) rfl rfl).2
theorem di_Camp_12 : decode md_Camp_init.2.1 12 = .ok (.aload_n (0), 1) := (dec_at tk_Camp_init (pc1 := 12) rfl rfl).1
theorem di_Camp_13 : decode md_Camp_init.2.1 13 = .ok (.iconst (5), 1) := (dec_at tk_Camp_init (pc1 := 13) rfl rfl).1
theorem di_Camp_14 : decode md_Camp_init.2.1 14 = .ok (.newarray .int, 2) := (dec_at tk_Camp_init (pc1 := 14) rfl rfl).1
theorem di_Camp_16 : decode md_Camp_init.2.1 16 = .ok (.putfield (15), 3) := (dec_at tk_Camp_init (pc1 := 16) rfl rfl).1
theorem df_Camp_16 : fldW md_Camp_init.1.cls 15 0 1 := (dec_at tk_Camp_init (pc1 := 16) rfl rfl).2
theorem di_Camp_19 : decode md_Camp_init.2.1 19 = .ok (.aload_n (0), 1) := (dec_at tk_Camp_init (pc1 := 19) rfl rfl).1
theorem di_Camp_20 : decode md_Camp_init.2.1 20 = .ok (.iconst (5), 1) := (dec_at tk_Camp_init (pc1 := 20) rfl rfl).1
theorem di_Camp_21 : decode md_Camp_init.2.1 21 = .ok (.newarray .int, 2) := (dec_at tk_Camp_init (pc1 := 21) rfl rfl).1
theorem di_Camp_23 : decode md_Camp_init.2.1 23 = .ok (.putfield (18), 3) := (dec_at tk_Camp_init (pc1 := 23) rfl rfl).1
theorem df_Camp_23 : fldW md_Camp_init.1.cls 18 0 2 := (dec_at tk_Camp_init (pc1 := 23) rfl rfl).2
theorem di_Camp_26 : decode md_Camp_init.2.1 26 = .ok (.aload_n (0), 1) := (dec_at tk_Camp_init (pc1 := 26) rfl rfl).1
theorem di_Camp_27 : decode md_Camp_init.2.1 27 = .ok (.iconst (5), 1) := (dec_at tk_Camp_init (pc1 := 27) rfl rfl).1
theorem di_Camp_28 : decode md_Camp_init.2.1 28 = .ok (.newarray .int, 2) := (dec_at tk_Camp_init (pc1 := 28) rfl rfl).1
theorem di_Camp_30 : decode md_Camp_init.2.1 30 = .ok (.putfield (21), 3) := (dec_at tk_Camp_init (pc1 := 30) rfl rfl).1
theorem df_Camp_30 : fldW md_Camp_init.1.cls 21 0 3 := (dec_at tk_Camp_init (pc1 := 30) rfl rfl).2
theorem di_Camp_33 : decode md_Camp_init.2.1 33 = .ok (.aload_n (0), 1) := (dec_at tk_Camp_init (pc1 := 33) rfl rfl).1
theorem di_Camp_34 : decode md_Camp_init.2.1 34 = .ok (.iconst (5), 1) := (dec_at tk_Camp_init (pc1 := 34) rfl rfl).1
theorem di_Camp_35 : decode md_Camp_init.2.1 35 = .ok (.newarray .int, 2) := (dec_at tk_Camp_init (pc1 := 35) rfl rfl).1
theorem di_Camp_37 : decode md_Camp_init.2.1 37 = .ok (.putfield (24), 3) := (dec_at tk_Camp_init (pc1 := 37) rfl rfl).1
theorem df_Camp_37 : fldW md_Camp_init.1.cls 24 0 4 := (dec_at tk_Camp_init (pc1 := 37) rfl rfl).2
theorem di_Camp_40 : decode md_Camp_init.2.1 40 = .ok (.aload_n (0), 1) := (dec_at tk_Camp_init (pc1 := 40) rfl rfl).1
theorem di_Camp_41 : decode md_Camp_init.2.1 41 = .ok (.iconst (5), 1) := (dec_at tk_Camp_init (pc1 := 41) rfl rfl).1
theorem di_Camp_42 : decode md_Camp_init.2.1 42 = .ok (.newarray .int, 2) := (dec_at tk_Camp_init (pc1 := 42) rfl rfl).1
theorem di_Camp_44 : decode md_Camp_init.2.1 44 = .ok (.putfield (27), 3) := (dec_at tk_Camp_init (pc1 := 44) rfl rfl).1
theorem df_Camp_44 : fldW md_Camp_init.1.cls 27 0 5 := (dec_at tk_Camp_init (pc1 := 44) rfl rfl).2
theorem di_Camp_47 : decode md_Camp_init.2.1 47 = .ok (.aload_n (0), 1) := (dec_at tk_Camp_init (pc1 := 47) rfl rfl).1
theorem di_Camp_48 : decode md_Camp_init.2.1 48 = .ok (.iconst (5), 1) := (dec_at tk_Camp_init (pc1 := 48) rfl rfl).1
theorem di_Camp_49 : decode md_Camp_init.2.1 49 = .ok (.newarray .int, 2) := (dec_at tk_Camp_init (pc1 := 49) rfl rfl).1
theorem di_Camp_51 : decode md_Camp_init.2.1 51 = .ok (.putfield (30), 3) := (dec_at tk_Camp_init (pc1 := 51) rfl rfl).1
theorem df_Camp_51 : fldW md_Camp_init.1.cls 30 0 6 := (dec_at tk_Camp_init (pc1 := 51) rfl rfl).2
theorem di_Camp_54 : decode md_Camp_init.2.1 54 = .ok (.aload_n (0), 1) := (dec_at tk_Camp_init (pc1 := 54) rfl rfl).1
theorem di_Camp_55 : decode md_Camp_init.2.1 55 = .ok (.iconst (5), 1) := (dec_at tk_Camp_init (pc1 := 55) rfl rfl).1
theorem di_Camp_56 : decode md_Camp_init.2.1 56 = .ok (.newarray .int, 2) := (dec_at tk_Camp_init (pc1 := 56) rfl rfl).1
theorem di_Camp_58 : decode md_Camp_init.2.1 58 = .ok (.putfield (33), 3) := (dec_at tk_Camp_init (pc1 := 58) rfl rfl).1
theorem df_Camp_58 : fldW md_Camp_init.1.cls 33 0 7 := (dec_at tk_Camp_init (pc1 := 58) rfl rfl).2
theorem di_Camp_61 : decode md_Camp_init.2.1 61 = .ok (.aload_n (0), 1) := (dec_at tk_Camp_init (pc1 := 61) rfl rfl).1
theorem di_Camp_62 : decode md_Camp_init.2.1 62 = .ok (.iconst (5), 1) := (dec_at tk_Camp_init (pc1 := 62) rfl rfl).1
theorem di_Camp_63 : decode md_Camp_init.2.1 63 = .ok (.newarray .int, 2) := (dec_at tk_Camp_init (pc1 := 63) rfl rfl).1
theorem di_Camp_65 : decode md_Camp_init.2.1 65 = .ok (.putfield (36), 3) := (dec_at tk_Camp_init (pc1 := 65) rfl rfl).1
theorem df_Camp_65 : fldW md_Camp_init.1.cls 36 0 8 := (dec_at tk_Camp_init (pc1 := 65) rfl rfl).2
theorem di_Camp_68 : decode md_Camp_init.2.1 68 = .ok (.aload_n (0), 1) := (dec_at tk_Camp_init (pc1 := 68) rfl rfl).1
theorem di_Camp_69 : decode md_Camp_init.2.1 69 = .ok (.iload_n (1), 1) := (dec_at tk_Camp_init (pc1 := 69) rfl rfl).1
theorem di_Camp_70 : decode md_Camp_init.2.1 70 = .ok (.bipush (25), 2) := (dec_at tk_Camp_init (pc1 := 70) rfl rfl).1
theorem di_Camp_72 : decode md_Camp_init.2.1 72 = .ok (.imul, 1) := (dec_at tk_Camp_init (pc1 := 72) rfl rfl).1
theorem di_Camp_73 : decode md_Camp_init.2.1 73 = .ok (.newarray .int, 2) := (dec_at tk_Camp_init (pc1 := 73) rfl rfl).1
theorem di_Camp_75 : decode md_Camp_init.2.1 75 = .ok (.putfield (39), 3) := (dec_at tk_Camp_init (pc1 := 75) rfl rfl).1
theorem df_Camp_75 : fldW md_Camp_init.1.cls 39 0 9 := (dec_at tk_Camp_init (pc1 := 75) rfl rfl).2
theorem di_Camp_78 : decode md_Camp_init.2.1 78 = .ok (.return_, 1) := (dec_at tk_Camp_init (pc1 := 78) rfl rfl).1
def pm_Orders_init : List PE := [(0, 1, .aload_n (0), 0, 0, 0, 0),
  (1, 3, .invokespecial (3), 0, 0, 0, 0),
  (4, 1, .aload_n (0), 0, 0, 0, 0),
  (5, 1, .iconst (5), 0, 0, 5, 0),
  (6, 2, .newarray .int, 0, 0, 0, 0),
  (8, 3, .putfield (9), 1, 0, 0, 0),
  (11, 1, .return_, 0, 0, 0, 0)]
def md_Orders_init : Md := (y_Orders_init, prog_3_method_1_code, 1, none, pm_Orders_init)
theorem tk_Orders_init : Tm md_Orders_init := tab_of (o := 1) (by decide +kernel)
set_option maxRecDepth 100000 in
theorem oki_Orders : MdI md_Orders_init 0 := ⟨T1_in1 (i := 139) rfl rfl, T1_in1 (i := 6) rfl rfl, rfl, T1_in1 (i := 138) rfl rfl, ⟨by decide +kernel, by decide +kernel⟩, by decide +kernel, by decide⟩
theorem di_Orders_0 : decode md_Orders_init.2.1 0 = .ok (.aload_n (0), 1) := (dec_at tk_Orders_init (pc1 := 0) rfl rfl).1
theorem di_Orders_1 : decode md_Orders_init.2.1 1 = .ok (.invokespecial (3), 3) := (dec_at tk_Orders_init (pc1 := 1) rfl rfl).1
theorem di_Orders_4 : decode md_Orders_init.2.1 4 = .ok (.aload_n (0), 1) := (dec_at tk_Orders_init (pc1 := 4) rfl rfl).1
theorem di_Orders_5 : decode md_Orders_init.2.1 5 = .ok (.iconst (5), 1) := (dec_at tk_Orders_init (pc1 := 5) rfl rfl).1
theorem di_Orders_6 : decode md_Orders_init.2.1 6 = .ok (.newarray .int, 2) := (dec_at tk_Orders_init (pc1 := 6) rfl rfl).1
theorem di_Orders_8 : decode md_Orders_init.2.1 8 = .ok (.putfield (9), 3) := (dec_at tk_Orders_init (pc1 := 8) rfl rfl).1
theorem df_Orders_8 : fldW md_Orders_init.1.cls 9 1 0 := (dec_at tk_Orders_init (pc1 := 8) rfl rfl).2
theorem di_Orders_11 : decode md_Orders_init.2.1 11 = .ok (.return_, 1) := (dec_at tk_Orders_init (pc1 := 11) rfl rfl).1
def pm_Plan_init : List PE := [(0, 1, .aload_n (0), 0, 0, 0, 0),
  (1, 3, .invokespecial (3), 0, 0, 0, 0),
  (4, 1, .aload_n (0), 0, 0, 0, 0),
  (5, 2, .bipush (120), 0, 0, 120, 0),
  (7, 2, .newarray .int, 0, 0, 0, 0),
  (9, 3, .putfield (9), 2, 0, 0, 0),
  (12, 1, .aload_n (0), 0, 0, 0, 0),
  (13, 3, .sipush (600), 0, 0, 600, 0),
  (16, 2, .newarray .int, 0, 0, 0, 0),
  (18, 3, .putfield (15), 2, 1, 0, 0),
  (21, 1, .aload_n (0), 0, 0, 0, 0),
  (22, 1, .iconst (5), 0, 0, 5, 0),
  (23, 2, .newarray .int, 0, 0, 0, 0),
  (25, 3, .putfield (18), 2, 2, 0, 0),
  (28, 1, .aload_n (0), 0, 0, 0, 0),
  (29, 2, .bipush (20), 0, 0, 20, 0),
  (31, 2, .newarray .int, 0, 0, 0, 0),
  (33, 3, .putfield (21), 2, 3, 0, 0),
  (36, 1, .aload_n (0), 0, 0, 0, 0),
  (37, 1, .iconst (3), 0, 0, 3, 0),
  (38, 2, .newarray .int, 0, 0, 0, 0),
  (40, 3, .putfield (24), 2, 4, 0, 0),
  (43, 1, .aload_n (0), 0, 0, 0, 0),
  (44, 1, .iconst (3), 0, 0, 3, 0),
  (45, 2, .newarray .int, 0, 0, 0, 0),
  (47, 3, .putfield (27), 2, 5, 0, 0),
  (50, 1, .return_, 0, 0, 0, 0)]
def md_Plan_init : Md := (y_Plan_init, prog_4_method_1_code, 1, none, pm_Plan_init)
theorem tk_Plan_init : Tm md_Plan_init := tab_of (o := 2) (by decide +kernel)
set_option maxRecDepth 100000 in
theorem oki_Plan : MdI md_Plan_init 0 := ⟨T1_in1 (i := 153) rfl rfl, T1_in1 (i := 7) rfl rfl, rfl, T1_in1 (i := 152) rfl rfl, ⟨by decide +kernel, by decide +kernel⟩, by decide +kernel, by decide⟩
theorem di_Plan_0 : decode md_Plan_init.2.1 0 = .ok (.aload_n (0), 1) := (dec_at tk_Plan_init (pc1 := 0) rfl rfl).1
theorem di_Plan_1 : decode md_Plan_init.2.1 1 = .ok (.invokespecial (3), 3) := (dec_at tk_Plan_init (pc1 := 1) rfl rfl).1
theorem di_Plan_4 : decode md_Plan_init.2.1 4 = .ok (.aload_n (0), 1) := (dec_at tk_Plan_init (pc1 := 4) rfl rfl).1
theorem di_Plan_5 : decode md_Plan_init.2.1 5 = .ok (.bipush (120), 2) := (dec_at tk_Plan_init (pc1 := 5) rfl rfl).1
theorem di_Plan_7 : decode md_Plan_init.2.1 7 = .ok (.newarray .int, 2) := (dec_at tk_Plan_init (pc1 := 7) rfl rfl).1
theorem di_Plan_9 : decode md_Plan_init.2.1 9 = .ok (.putfield (9), 3) := (dec_at tk_Plan_init (pc1 := 9) rfl rfl).1
theorem df_Plan_9 : fldW md_Plan_init.1.cls 9 2 0 := (dec_at tk_Plan_init (pc1 := 9) rfl rfl).2
theorem di_Plan_12 : decode md_Plan_init.2.1 12 = .ok (.aload_n (0), 1) := (dec_at tk_Plan_init (pc1 := 12) rfl rfl).1
theorem di_Plan_13 : decode md_Plan_init.2.1 13 = .ok (.sipush (600), 3) := (dec_at tk_Plan_init (pc1 := 13) rfl rfl).1
theorem di_Plan_16 : decode md_Plan_init.2.1 16 = .ok (.newarray .int, 2) := (dec_at tk_Plan_init (pc1 := 16) rfl rfl).1
theorem di_Plan_18 : decode md_Plan_init.2.1 18 = .ok (.putfield (15), 3) := (dec_at tk_Plan_init (pc1 := 18) rfl rfl).1
theorem df_Plan_18 : fldW md_Plan_init.1.cls 15 2 1 := (dec_at tk_Plan_init (pc1 := 18) rfl rfl).2
theorem di_Plan_21 : decode md_Plan_init.2.1 21 = .ok (.aload_n (0), 1) := (dec_at tk_Plan_init (pc1 := 21) rfl rfl).1
theorem di_Plan_22 : decode md_Plan_init.2.1 22 = .ok (.iconst (5), 1) := (dec_at tk_Plan_init (pc1 := 22) rfl rfl).1
theorem di_Plan_23 : decode md_Plan_init.2.1 23 = .ok (.newarray .int, 2) := (dec_at tk_Plan_init (pc1 := 23) rfl rfl).1
theorem di_Plan_25 : decode md_Plan_init.2.1 25 = .ok (.putfield (18), 3) := (dec_at tk_Plan_init (pc1 := 25) rfl rfl).1
theorem df_Plan_25 : fldW md_Plan_init.1.cls 18 2 2 := (dec_at tk_Plan_init (pc1 := 25) rfl rfl).2
theorem di_Plan_28 : decode md_Plan_init.2.1 28 = .ok (.aload_n (0), 1) := (dec_at tk_Plan_init (pc1 := 28) rfl rfl).1
theorem di_Plan_29 : decode md_Plan_init.2.1 29 = .ok (.bipush (20), 2) := (dec_at tk_Plan_init (pc1 := 29) rfl rfl).1
theorem di_Plan_31 : decode md_Plan_init.2.1 31 = .ok (.newarray .int, 2) := (dec_at tk_Plan_init (pc1 := 31) rfl rfl).1
theorem di_Plan_33 : decode md_Plan_init.2.1 33 = .ok (.putfield (21), 3) := (dec_at tk_Plan_init (pc1 := 33) rfl rfl).1
theorem df_Plan_33 : fldW md_Plan_init.1.cls 21 2 3 := (dec_at tk_Plan_init (pc1 := 33) rfl rfl).2
theorem di_Plan_36 : decode md_Plan_init.2.1 36 = .ok (.aload_n (0), 1) := (dec_at tk_Plan_init (pc1 := 36) rfl rfl).1
theorem di_Plan_37 : decode md_Plan_init.2.1 37 = .ok (.iconst (3), 1) := (dec_at tk_Plan_init (pc1 := 37) rfl rfl).1
theorem di_Plan_38 : decode md_Plan_init.2.1 38 = .ok (.newarray .int, 2) := (dec_at tk_Plan_init (pc1 := 38) rfl rfl).1
theorem di_Plan_40 : decode md_Plan_init.2.1 40 = .ok (.putfield (24), 3) := (dec_at tk_Plan_init (pc1 := 40) rfl rfl).1
theorem df_Plan_40 : fldW md_Plan_init.1.cls 24 2 4 := (dec_at tk_Plan_init (pc1 := 40) rfl rfl).2
theorem di_Plan_43 : decode md_Plan_init.2.1 43 = .ok (.aload_n (0), 1) := (dec_at tk_Plan_init (pc1 := 43) rfl rfl).1
theorem di_Plan_44 : decode md_Plan_init.2.1 44 = .ok (.iconst (3), 1) := (dec_at tk_Plan_init (pc1 := 44) rfl rfl).1
theorem di_Plan_45 : decode md_Plan_init.2.1 45 = .ok (.newarray .int, 2) := (dec_at tk_Plan_init (pc1 := 45) rfl rfl).1
theorem di_Plan_47 : decode md_Plan_init.2.1 47 = .ok (.putfield (27), 3) := (dec_at tk_Plan_init (pc1 := 47) rfl rfl).1
theorem df_Plan_47 : fldW md_Plan_init.1.cls 27 2 5 := (dec_at tk_Plan_init (pc1 := 47) rfl rfl).2
theorem di_Plan_50 : decode md_Plan_init.2.1 50 = .ok (.return_, 1) := (dec_at tk_Plan_init (pc1 := 50) rfl rfl).1
def pm_Reader_init : List PE := [(0, 1, .aload_n (0), 0, 0, 0, 0),
  (1, 3, .invokespecial (3), 0, 0, 0, 0),
  (4, 1, .aload_n (0), 0, 0, 0, 0),
  (5, 3, .new (9), 0, 0, 0, 0),
  (8, 1, .dup, 0, 0, 0, 0),
  (9, 1, .iconst (0), 0, 0, 0, 0),
  (10, 3, .invokespecial (11), 0, 0, 0, 0),
  (13, 3, .putfield (14), 3, 0, 0, 0),
  (16, 1, .aload_n (0), 0, 0, 0, 0),
  (17, 2, .bipush (60), 0, 0, 60, 0),
  (19, 2, .newarray .int, 0, 0, 0, 0),
  (21, 3, .putfield (20), 3, 1, 0, 0),
  (24, 1, .return_, 0, 0, 0, 0)]
def md_Reader_init : Md := (y_Reader_init, prog_5_method_1_code, 1, none, pm_Reader_init)
theorem tk_Reader_init : Tm md_Reader_init := tab_of (o := 3) (by decide +kernel)
set_option maxRecDepth 100000 in
theorem oki_Reader : MdI md_Reader_init 0 := ⟨T1_in1 (i := 117) rfl rfl, T1_in1 (i := 5) rfl rfl, rfl, T1_in1 (i := 116) rfl rfl, ⟨by decide +kernel, by decide +kernel⟩, by decide +kernel, by decide⟩
theorem di_Reader_0 : decode md_Reader_init.2.1 0 = .ok (.aload_n (0), 1) := (dec_at tk_Reader_init (pc1 := 0) rfl rfl).1
theorem di_Reader_1 : decode md_Reader_init.2.1 1 = .ok (.invokespecial (3), 3) := (dec_at tk_Reader_init (pc1 := 1) rfl rfl).1
theorem di_Reader_4 : decode md_Reader_init.2.1 4 = .ok (.aload_n (0), 1) := (dec_at tk_Reader_init (pc1 := 4) rfl rfl).1
theorem di_Reader_5 : decode md_Reader_init.2.1 5 = .ok (.new (9), 3) := (dec_at tk_Reader_init (pc1 := 5) rfl rfl).1
theorem di_Reader_8 : decode md_Reader_init.2.1 8 = .ok (.dup, 1) := (dec_at tk_Reader_init (pc1 := 8) rfl rfl).1
theorem di_Reader_9 : decode md_Reader_init.2.1 9 = .ok (.iconst (0), 1) := (dec_at tk_Reader_init (pc1 := 9) rfl rfl).1
theorem di_Reader_10 : decode md_Reader_init.2.1 10 = .ok (.invokespecial (11), 3) := (dec_at tk_Reader_init (pc1 := 10) rfl rfl).1
theorem di_Reader_13 : decode md_Reader_init.2.1 13 = .ok (.putfield (14), 3) := (dec_at tk_Reader_init (pc1 := 13) rfl rfl).1
theorem df_Reader_13 : fldW md_Reader_init.1.cls 14 3 0 := (dec_at tk_Reader_init (pc1 := 13) rfl rfl).2
theorem di_Reader_16 : decode md_Reader_init.2.1 16 = .ok (.aload_n (0), 1) := (dec_at tk_Reader_init (pc1 := 16) rfl rfl).1
theorem di_Reader_17 : decode md_Reader_init.2.1 17 = .ok (.bipush (60), 2) := (dec_at tk_Reader_init (pc1 := 17) rfl rfl).1
theorem di_Reader_19 : decode md_Reader_init.2.1 19 = .ok (.newarray .int, 2) := (dec_at tk_Reader_init (pc1 := 19) rfl rfl).1
theorem di_Reader_21 : decode md_Reader_init.2.1 21 = .ok (.putfield (20), 3) := (dec_at tk_Reader_init (pc1 := 21) rfl rfl).1
theorem df_Reader_21 : fldW md_Reader_init.1.cls 20 3 1 := (dec_at tk_Reader_init (pc1 := 21) rfl rfl).2
theorem di_Reader_24 : decode md_Reader_init.2.1 24 = .ok (.return_, 1) := (dec_at tk_Reader_init (pc1 := 24) rfl rfl).1
def pm_Tent_init : List PE := [(0, 1, .aload_n (0), 0, 0, 0, 0),
  (1, 3, .invokespecial (1), 0, 0, 0, 0),
  (4, 1, .aload_n (0), 0, 0, 0, 0),
  (5, 3, .new (7), 0, 0, 0, 0),
  (8, 1, .dup, 0, 0, 0, 0),
  (9, 2, .bipush (6), 0, 0, 6, 0),
  (11, 2, .bipush (40), 0, 0, 40, 0),
  (13, 3, .invokespecial (11), 0, 0, 0, 0),
  (16, 3, .putfield (14), 5, 0, 0, 0),
  (19, 1, .aload_n (0), 0, 0, 0, 0),
  (20, 3, .new (7), 0, 0, 0, 0),
  (23, 1, .dup, 0, 0, 0, 0),
  (24, 1, .iconst (4), 0, 0, 4, 0),
  (25, 2, .bipush (60), 0, 0, 60, 0),
  (27, 3, .invokespecial (11), 0, 0, 0, 0),
  (30, 3, .putfield (18), 5, 1, 0, 0),
  (33, 1, .aload_n (0), 0, 0, 0, 0),
  (34, 3, .new (21), 0, 0, 0, 0),
  (37, 1, .dup, 0, 0, 0, 0),
  (38, 2, .bipush (40), 0, 0, 40, 0),
  (40, 3, .invokespecial (23), 0, 0, 0, 0),
  (43, 3, .putfield (26), 5, 2, 0, 0),
  (46, 1, .aload_n (0), 0, 0, 0, 0),
  (47, 1, .iconst (3), 0, 0, 3, 0),
  (48, 3, .anewarray (21), 0, 0, 0, 0),
  (51, 3, .putfield (30), 5, 3, 0, 0),
  (54, 1, .aload_n (0), 0, 0, 0, 0),
  (55, 3, .new (21), 0, 0, 0, 0),
  (58, 1, .dup, 0, 0, 0, 0),
  (59, 1, .iconst (0), 0, 0, 0, 0),
  (60, 3, .invokespecial (23), 0, 0, 0, 0),
  (63, 3, .putfield (34), 5, 4, 0, 0),
  (66, 1, .aload_n (0), 0, 0, 0, 0),
  (67, 3, .new (37), 0, 0, 0, 0),
  (70, 1, .dup, 0, 0, 0, 0),
  (71, 3, .invokespecial (39), 0, 0, 0, 0),
  (74, 3, .putfield (40), 5, 5, 0, 0),
  (77, 1, .aload_n (0), 0, 0, 0, 0),
  (78, 3, .new (44), 0, 0, 0, 0),
  (81, 1, .dup, 0, 0, 0, 0),
  (82, 3, .invokespecial (46), 0, 0, 0, 0),
  (85, 3, .putfield (47), 5, 6, 0, 0),
  (88, 1, .aload_n (0), 0, 0, 0, 0),
  (89, 3, .new (51), 0, 0, 0, 0),
  (92, 1, .dup, 0, 0, 0, 0),
  (93, 3, .invokespecial (53), 0, 0, 0, 0),
  (96, 3, .putfield (54), 5, 7, 0, 0),
  (99, 1, .aload_n (0), 0, 0, 0, 0),
  (100, 2, .bipush (6), 0, 0, 6, 0),
  (102, 2, .newarray .int, 0, 0, 0, 0),
  (104, 3, .putfield (58), 5, 8, 0, 0),
  (107, 1, .aload_n (0), 0, 0, 0, 0),
  (108, 1, .lconst (1), 0, 0, 0, 1),
  (109, 3, .putfield (62), 5, 12, 0, 0),
  (112, 1, .iconst (0), 0, 0, 0, 0),
  (113, 1, .istore_n (1), 0, 0, 0, 0),
  (114, 1, .iload_n (1), 0, 0, 0, 0),
  (115, 1, .iconst (3), 0, 0, 3, 0),
  (116, 3, .if_icmp .ge (24), 140, 0, 0, 0),
  (119, 1, .aload_n (0), 0, 0, 0, 0),
  (120, 3, .getfield (30), 5, 3, 0, 0),
  (123, 1, .iload_n (1), 0, 0, 0, 0),
  (124, 3, .new (21), 0, 0, 0, 0),
  (127, 1, .dup, 0, 0, 0, 0),
  (128, 2, .bipush (40), 0, 0, 40, 0),
  (130, 3, .invokespecial (23), 0, 0, 0, 0),
  (133, 1, .aastore, 0, 0, 0, 0),
  (134, 3, .iinc (1) (1), 0, 0, 1, 0),
  (137, 3, .goto (-23), 114, 0, 0, 0),
  (140, 1, .return_, 0, 0, 0, 0)]
def md_Tent_init : Md := (y_Tent_init, prog_1_method_1_code, 2, none, pm_Tent_init)
theorem tk_Tent_init : Tm md_Tent_init := tab_of (o := 5) (by decide +kernel)
set_option maxRecDepth 100000 in
theorem oki_Tent : MdI md_Tent_init 0 := ⟨T1_in1 (i := 16) rfl rfl, T1_in1 (i := 1) rfl rfl, rfl, T1_in1 (i := 15) rfl rfl, ⟨by decide +kernel, by decide +kernel⟩, by decide +kernel, by decide⟩
theorem di_Tent_0 : decode md_Tent_init.2.1 0 = .ok (.aload_n (0), 1) := (dec_at tk_Tent_init (pc1 := 0) rfl rfl).1
theorem di_Tent_1 : decode md_Tent_init.2.1 1 = .ok (.invokespecial (1), 3) := (dec_at tk_Tent_init (pc1 := 1) rfl rfl).1
theorem di_Tent_4 : decode md_Tent_init.2.1 4 = .ok (.aload_n (0), 1) := (dec_at tk_Tent_init (pc1 := 4) rfl rfl).1
theorem di_Tent_5 : decode md_Tent_init.2.1 5 = .ok (.new (7), 3) := (dec_at tk_Tent_init (pc1 := 5) rfl rfl).1
theorem di_Tent_8 : decode md_Tent_init.2.1 8 = .ok (.dup, 1) := (dec_at tk_Tent_init (pc1 := 8) rfl rfl).1
theorem di_Tent_9 : decode md_Tent_init.2.1 9 = .ok (.bipush (6), 2) := (dec_at tk_Tent_init (pc1 := 9) rfl rfl).1
theorem di_Tent_11 : decode md_Tent_init.2.1 11 = .ok (.bipush (40), 2) := (dec_at tk_Tent_init (pc1 := 11) rfl rfl).1
theorem di_Tent_13 : decode md_Tent_init.2.1 13 = .ok (.invokespecial (11), 3) := (dec_at tk_Tent_init (pc1 := 13) rfl rfl).1
theorem di_Tent_16 : decode md_Tent_init.2.1 16 = .ok (.putfield (14), 3) := (dec_at tk_Tent_init (pc1 := 16) rfl rfl).1
theorem df_Tent_16 : fldW md_Tent_init.1.cls 14 5 0 := (dec_at tk_Tent_init (pc1 := 16) rfl rfl).2
theorem di_Tent_19 : decode md_Tent_init.2.1 19 = .ok (.aload_n (0), 1) := (dec_at tk_Tent_init (pc1 := 19) rfl rfl).1
theorem di_Tent_20 : decode md_Tent_init.2.1 20 = .ok (.new (7), 3) := (dec_at tk_Tent_init (pc1 := 20) rfl rfl).1
theorem di_Tent_23 : decode md_Tent_init.2.1 23 = .ok (.dup, 1) := (dec_at tk_Tent_init (pc1 := 23) rfl rfl).1
theorem di_Tent_24 : decode md_Tent_init.2.1 24 = .ok (.iconst (4), 1) := (dec_at tk_Tent_init (pc1 := 24) rfl rfl).1
theorem di_Tent_25 : decode md_Tent_init.2.1 25 = .ok (.bipush (60), 2) := (dec_at tk_Tent_init (pc1 := 25) rfl rfl).1
theorem di_Tent_27 : decode md_Tent_init.2.1 27 = .ok (.invokespecial (11), 3) := (dec_at tk_Tent_init (pc1 := 27) rfl rfl).1
theorem di_Tent_30 : decode md_Tent_init.2.1 30 = .ok (.putfield (18), 3) := (dec_at tk_Tent_init (pc1 := 30) rfl rfl).1
theorem df_Tent_30 : fldW md_Tent_init.1.cls 18 5 1 := (dec_at tk_Tent_init (pc1 := 30) rfl rfl).2
theorem di_Tent_33 : decode md_Tent_init.2.1 33 = .ok (.aload_n (0), 1) := (dec_at tk_Tent_init (pc1 := 33) rfl rfl).1
theorem di_Tent_34 : decode md_Tent_init.2.1 34 = .ok (.new (21), 3) := (dec_at tk_Tent_init (pc1 := 34) rfl rfl).1
theorem di_Tent_37 : decode md_Tent_init.2.1 37 = .ok (.dup, 1) := (dec_at tk_Tent_init (pc1 := 37) rfl rfl).1
theorem di_Tent_38 : decode md_Tent_init.2.1 38 = .ok (.bipush (40), 2) := (dec_at tk_Tent_init (pc1 := 38) rfl rfl).1
theorem di_Tent_40 : decode md_Tent_init.2.1 40 = .ok (.invokespecial (23), 3) := (dec_at tk_Tent_init (pc1 := 40) rfl rfl).1
theorem di_Tent_43 : decode md_Tent_init.2.1 43 = .ok (.putfield (26), 3) := (dec_at tk_Tent_init (pc1 := 43) rfl rfl).1
theorem df_Tent_43 : fldW md_Tent_init.1.cls 26 5 2 := (dec_at tk_Tent_init (pc1 := 43) rfl rfl).2
theorem di_Tent_46 : decode md_Tent_init.2.1 46 = .ok (.aload_n (0), 1) := (dec_at tk_Tent_init (pc1 := 46) rfl rfl).1
theorem di_Tent_47 : decode md_Tent_init.2.1 47 = .ok (.iconst (3), 1) := (dec_at tk_Tent_init (pc1 := 47) rfl rfl).1
theorem di_Tent_48 : decode md_Tent_init.2.1 48 = .ok (.anewarray (21), 3) := (dec_at tk_Tent_init (pc1 := 48) rfl rfl).1
theorem di_Tent_51 : decode md_Tent_init.2.1 51 = .ok (.putfield (30), 3) := (dec_at tk_Tent_init (pc1 := 51) rfl rfl).1
theorem df_Tent_51 : fldW md_Tent_init.1.cls 30 5 3 := (dec_at tk_Tent_init (pc1 := 51) rfl rfl).2
theorem di_Tent_54 : decode md_Tent_init.2.1 54 = .ok (.aload_n (0), 1) := (dec_at tk_Tent_init (pc1 := 54) rfl rfl).1
theorem di_Tent_55 : decode md_Tent_init.2.1 55 = .ok (.new (21), 3) := (dec_at tk_Tent_init (pc1 := 55) rfl rfl).1
theorem di_Tent_58 : decode md_Tent_init.2.1 58 = .ok (.dup, 1) := (dec_at tk_Tent_init (pc1 := 58) rfl rfl).1
theorem di_Tent_59 : decode md_Tent_init.2.1 59 = .ok (.iconst (0), 1) := (dec_at tk_Tent_init (pc1 := 59) rfl rfl).1
theorem di_Tent_60 : decode md_Tent_init.2.1 60 = .ok (.invokespecial (23), 3) := (dec_at tk_Tent_init (pc1 := 60) rfl rfl).1
theorem di_Tent_63 : decode md_Tent_init.2.1 63 = .ok (.putfield (34), 3) := (dec_at tk_Tent_init (pc1 := 63) rfl rfl).1
theorem df_Tent_63 : fldW md_Tent_init.1.cls 34 5 4 := (dec_at tk_Tent_init (pc1 := 63) rfl rfl).2
theorem di_Tent_66 : decode md_Tent_init.2.1 66 = .ok (.aload_n (0), 1) := (dec_at tk_Tent_init (pc1 := 66) rfl rfl).1
theorem di_Tent_67 : decode md_Tent_init.2.1 67 = .ok (.new (37), 3) := (dec_at tk_Tent_init (pc1 := 67) rfl rfl).1
theorem di_Tent_70 : decode md_Tent_init.2.1 70 = .ok (.dup, 1) := (dec_at tk_Tent_init (pc1 := 70) rfl rfl).1
theorem di_Tent_71 : decode md_Tent_init.2.1 71 = .ok (.invokespecial (39), 3) := (dec_at tk_Tent_init (pc1 := 71) rfl rfl).1
theorem di_Tent_74 : decode md_Tent_init.2.1 74 = .ok (.putfield (40), 3) := (dec_at tk_Tent_init (pc1 := 74) rfl rfl).1
theorem df_Tent_74 : fldW md_Tent_init.1.cls 40 5 5 := (dec_at tk_Tent_init (pc1 := 74) rfl rfl).2
theorem di_Tent_77 : decode md_Tent_init.2.1 77 = .ok (.aload_n (0), 1) := (dec_at tk_Tent_init (pc1 := 77) rfl rfl).1
theorem di_Tent_78 : decode md_Tent_init.2.1 78 = .ok (.new (44), 3) := (dec_at tk_Tent_init (pc1 := 78) rfl rfl).1
theorem di_Tent_81 : decode md_Tent_init.2.1 81 = .ok (.dup, 1) := (dec_at tk_Tent_init (pc1 := 81) rfl rfl).1
theorem di_Tent_82 : decode md_Tent_init.2.1 82 = .ok (.invokespecial (46), 3) := (dec_at tk_Tent_init (pc1 := 82) rfl rfl).1
theorem di_Tent_85 : decode md_Tent_init.2.1 85 = .ok (.putfield (47), 3) := (dec_at tk_Tent_init (pc1 := 85) rfl rfl).1
theorem df_Tent_85 : fldW md_Tent_init.1.cls 47 5 6 := (dec_at tk_Tent_init (pc1 := 85) rfl rfl).2
theorem di_Tent_88 : decode md_Tent_init.2.1 88 = .ok (.aload_n (0), 1) := (dec_at tk_Tent_init (pc1 := 88) rfl rfl).1
theorem di_Tent_89 : decode md_Tent_init.2.1 89 = .ok (.new (51), 3) := (dec_at tk_Tent_init (pc1 := 89) rfl rfl).1
theorem di_Tent_92 : decode md_Tent_init.2.1 92 = .ok (.dup, 1) := (dec_at tk_Tent_init (pc1 := 92) rfl rfl).1
theorem di_Tent_93 : decode md_Tent_init.2.1 93 = .ok (.invokespecial (53), 3) := (dec_at tk_Tent_init (pc1 := 93) rfl rfl).1
theorem di_Tent_96 : decode md_Tent_init.2.1 96 = .ok (.putfield (54), 3) := (dec_at tk_Tent_init (pc1 := 96) rfl rfl).1
theorem df_Tent_96 : fldW md_Tent_init.1.cls 54 5 7 := (dec_at tk_Tent_init (pc1 := 96) rfl rfl).2
theorem di_Tent_99 : decode md_Tent_init.2.1 99 = .ok (.aload_n (0), 1) := (dec_at tk_Tent_init (pc1 := 99) rfl rfl).1
theorem di_Tent_100 : decode md_Tent_init.2.1 100 = .ok (.bipush (6), 2) := (dec_at tk_Tent_init (pc1 := 100) rfl rfl).1
theorem di_Tent_102 : decode md_Tent_init.2.1 102 = .ok (.newarray .int, 2) := (dec_at tk_Tent_init (pc1 := 102) rfl rfl).1
theorem di_Tent_104 : decode md_Tent_init.2.1 104 = .ok (.putfield (58), 3) := (dec_at tk_Tent_init (pc1 := 104) rfl rfl).1
theorem df_Tent_104 : fldW md_Tent_init.1.cls 58 5 8 := (dec_at tk_Tent_init (pc1 := 104) rfl rfl).2
theorem di_Tent_107 : decode md_Tent_init.2.1 107 = .ok (.aload_n (0), 1) := (dec_at tk_Tent_init (pc1 := 107) rfl rfl).1
theorem di_Tent_108 : decode md_Tent_init.2.1 108 = .ok (.lconst (1), 1) := (dec_at tk_Tent_init (pc1 := 108) rfl rfl).1
theorem di_Tent_109 : decode md_Tent_init.2.1 109 = .ok (.putfield (62), 3) := (dec_at tk_Tent_init (pc1 := 109) rfl rfl).1
theorem df_Tent_109 : fldW md_Tent_init.1.cls 62 5 12 := (dec_at tk_Tent_init (pc1 := 109) rfl rfl).2
theorem di_Tent_112 : decode md_Tent_init.2.1 112 = .ok (.iconst (0), 1) := (dec_at tk_Tent_init (pc1 := 112) rfl rfl).1
theorem di_Tent_113 : decode md_Tent_init.2.1 113 = .ok (.istore_n (1), 1) := (dec_at tk_Tent_init (pc1 := 113) rfl rfl).1
theorem di_Tent_114 : decode md_Tent_init.2.1 114 = .ok (.iload_n (1), 1) := (dec_at tk_Tent_init (pc1 := 114) rfl rfl).1
theorem di_Tent_115 : decode md_Tent_init.2.1 115 = .ok (.iconst (3), 1) := (dec_at tk_Tent_init (pc1 := 115) rfl rfl).1
theorem di_Tent_116 : decode md_Tent_init.2.1 116 = .ok (.if_icmp .ge (24), 3) := (dec_at tk_Tent_init (pc1 := 116) rfl rfl).1
theorem di_Tent_119 : decode md_Tent_init.2.1 119 = .ok (.aload_n (0), 1) := (dec_at tk_Tent_init (pc1 := 119) rfl rfl).1
theorem di_Tent_120 : decode md_Tent_init.2.1 120 = .ok (.getfield (30), 3) := (dec_at tk_Tent_init (pc1 := 120) rfl rfl).1
theorem df_Tent_120 : fldW md_Tent_init.1.cls 30 5 3 := (dec_at tk_Tent_init (pc1 := 120) rfl rfl).2
theorem di_Tent_123 : decode md_Tent_init.2.1 123 = .ok (.iload_n (1), 1) := (dec_at tk_Tent_init (pc1 := 123) rfl rfl).1
theorem di_Tent_124 : decode md_Tent_init.2.1 124 = .ok (.new (21), 3) := (dec_at tk_Tent_init (pc1 := 124) rfl rfl).1
theorem di_Tent_127 : decode md_Tent_init.2.1 127 = .ok (.dup, 1) := (dec_at tk_Tent_init (pc1 := 127) rfl rfl).1
theorem di_Tent_128 : decode md_Tent_init.2.1 128 = .ok (.bipush (40), 2) := (dec_at tk_Tent_init (pc1 := 128) rfl rfl).1
theorem di_Tent_130 : decode md_Tent_init.2.1 130 = .ok (.invokespecial (23), 3) := (dec_at tk_Tent_init (pc1 := 130) rfl rfl).1
theorem di_Tent_133 : decode md_Tent_init.2.1 133 = .ok (.aastore, 1) := (dec_at tk_Tent_init (pc1 := 133) rfl rfl).1
theorem di_Tent_134 : decode md_Tent_init.2.1 134 = .ok (.iinc (1) (1), 3) := (dec_at tk_Tent_init (pc1 := 134) rfl rfl).1
theorem di_Tent_137 : decode md_Tent_init.2.1 137 = .ok (.goto (-23), 3) := (dec_at tk_Tent_init (pc1 := 137) rfl rfl).1
theorem di_Tent_140 : decode md_Tent_init.2.1 140 = .ok (.return_, 1) := (dec_at tk_Tent_init (pc1 := 140) rfl rfl).1
def pm_Mod_init : List PE := [(0, 1, .aload_n (0), 0, 0, 0, 0),
  (1, 3, .invokespecial (1), 0, 0, 0, 0),
  (4, 1, .aload_n (0), 0, 0, 0, 0),
  (5, 3, .sipush (4104), 0, 0, 4104, 0),
  (8, 2, .newarray .int, 0, 0, 0, 0),
  (10, 3, .putfield (7), 6, 0, 0, 0),
  (13, 1, .aload_n (0), 0, 0, 0, 0),
  (14, 1, .iconst (5), 0, 0, 5, 0),
  (15, 2, .newarray .int, 0, 0, 0, 0),
  (17, 3, .putfield (13), 6, 2, 0, 0),
  (20, 1, .aload_n (0), 0, 0, 0, 0),
  (21, 1, .iconst (5), 0, 0, 5, 0),
  (22, 2, .newarray .int, 0, 0, 0, 0),
  (24, 3, .putfield (16), 6, 3, 0, 0),
  (27, 1, .aload_n (0), 0, 0, 0, 0),
  (28, 2, .bipush (8), 0, 0, 8, 0),
  (30, 2, .newarray .int, 0, 0, 0, 0),
  (32, 3, .putfield (19), 6, 4, 0, 0),
  (35, 1, .aload_n (0), 0, 0, 0, 0),
  (36, 2, .bipush (6), 0, 0, 6, 0),
  (38, 2, .newarray .int, 0, 0, 0, 0),
  (40, 1, .dup, 0, 0, 0, 0),
  (41, 1, .iconst (0), 0, 0, 0, 0),
  (42, 1, .iconst (-1), 0, 0, (-1), 0),
  (43, 1, .iastore, 0, 0, 0, 0),
  (44, 1, .dup, 0, 0, 0, 0),
  (45, 1, .iconst (1), 0, 0, 1, 0),
  (46, 1, .iconst (-1), 0, 0, (-1), 0),
  (47, 1, .iastore, 0, 0, 0, 0),
  (48, 1, .dup, 0, 0, 0, 0),
  (49, 1, .iconst (2), 0, 0, 2, 0),
  (50, 1, .iconst (-1), 0, 0, (-1), 0),
  (51, 1, .iastore, 0, 0, 0, 0),
  (52, 1, .dup, 0, 0, 0, 0),
  (53, 1, .iconst (3), 0, 0, 3, 0),
  (54, 1, .iconst (-1), 0, 0, (-1), 0),
  (55, 1, .iastore, 0, 0, 0, 0),
  (56, 1, .dup, 0, 0, 0, 0),
  (57, 1, .iconst (4), 0, 0, 4, 0),
  (58, 1, .iconst (-1), 0, 0, (-1), 0),
  (59, 1, .iastore, 0, 0, 0, 0),
  (60, 1, .dup, 0, 0, 0, 0),
  (61, 1, .iconst (5), 0, 0, 5, 0),
  (62, 1, .iconst (-1), 0, 0, (-1), 0),
  (63, 1, .iastore, 0, 0, 0, 0),
  (64, 3, .putfield (22), 6, 5, 0, 0),
  (67, 1, .aload_n (0), 0, 0, 0, 0),
  (68, 3, .sipush (240), 0, 0, 240, 0),
  (71, 2, .newarray .int, 0, 0, 0, 0),
  (73, 3, .putfield (25), 6, 6, 0, 0),
  (76, 1, .aload_n (0), 0, 0, 0, 0),
  (77, 1, .iconst (4), 0, 0, 4, 0),
  (78, 2, .newarray .int, 0, 0, 0, 0),
  (80, 1, .dup, 0, 0, 0, 0),
  (81, 1, .iconst (0), 0, 0, 0, 0),
  (82, 1, .iconst (-1), 0, 0, (-1), 0),
  (83, 1, .iastore, 0, 0, 0, 0),
  (84, 1, .dup, 0, 0, 0, 0),
  (85, 1, .iconst (1), 0, 0, 1, 0),
  (86, 1, .iconst (-1), 0, 0, (-1), 0),
  (87, 1, .iastore, 0, 0, 0, 0),
  (88, 1, .dup, 0, 0, 0, 0),
  (89, 1, .iconst (2), 0, 0, 2, 0),
  (90, 1, .iconst (-1), 0, 0, (-1), 0),
  (91, 1, .iastore, 0, 0, 0, 0),
  (92, 1, .dup, 0, 0, 0, 0),
  (93, 1, .iconst (3), 0, 0, 3, 0),
  (94, 1, .iconst (-1), 0, 0, (-1), 0),
  (95, 1, .iastore, 0, 0, 0, 0),
  (96, 3, .putfield (28), 6, 7, 0, 0),
  (99, 1, .aload_n (0), 0, 0, 0, 0),
  (100, 3, .sipush (240), 0, 0, 240, 0),
  (103, 2, .newarray .int, 0, 0, 0, 0),
  (105, 3, .putfield (31), 6, 8, 0, 0),
  (108, 1, .aload_n (0), 0, 0, 0, 0),
  (109, 1, .lconst (1), 0, 0, 0, 1),
  (110, 3, .putfield (34), 6, 11, 0, 0),
  (113, 1, .aload_n (0), 0, 0, 0, 0),
  (114, 2, .bipush (6), 0, 0, 6, 0),
  (116, 2, .newarray .int, 0, 0, 0, 0),
  (118, 3, .putfield (38), 6, 13, 0, 0),
  (121, 1, .aload_n (0), 0, 0, 0, 0),
  (122, 2, .bipush (8), 0, 0, 8, 0),
  (124, 2, .newarray .int, 0, 0, 0, 0),
  (126, 3, .putfield (41), 6, 17, 0, 0),
  (129, 1, .aload_n (0), 0, 0, 0, 0),
  (130, 2, .bipush (15), 0, 0, 15, 0),
  (132, 2, .newarray .int, 0, 0, 0, 0),
  (134, 3, .putfield (44), 6, 18, 0, 0),
  (137, 1, .aload_n (0), 0, 0, 0, 0),
  (138, 1, .iconst (5), 0, 0, 5, 0),
  (139, 2, .newarray .int, 0, 0, 0, 0),
  (141, 3, .putfield (47), 6, 20, 0, 0),
  (144, 1, .aload_n (0), 0, 0, 0, 0),
  (145, 1, .iconst (5), 0, 0, 5, 0),
  (146, 2, .newarray .int, 0, 0, 0, 0),
  (148, 3, .putfield (50), 6, 21, 0, 0),
  (151, 1, .aload_n (0), 0, 0, 0, 0),
  (152, 2, .bipush (-9), 0, 0, (-9), 0),
  (154, 3, .putfield (53), 6, 24, 0, 0),
  (157, 1, .aload_n (0), 0, 0, 0, 0),
  (158, 2, .bipush (-9), 0, 0, (-9), 0),
  (160, 3, .putfield (57), 6, 25, 0, 0),
  (163, 1, .aload_n (0), 0, 0, 0, 0),
  (164, 1, .iconst (5), 0, 0, 5, 0),
  (165, 2, .newarray .int, 0, 0, 0, 0),
  (167, 3, .putfield (60), 6, 27, 0, 0),
  (170, 1, .aload_n (0), 0, 0, 0, 0),
  (171, 3, .sipush (600), 0, 0, 600, 0),
  (174, 2, .newarray .int, 0, 0, 0, 0),
  (176, 3, .putfield (63), 6, 28, 0, 0),
  (179, 1, .iconst (1), 0, 0, 1, 0),
  (180, 1, .istore_n (1), 0, 0, 0, 0),
  (181, 1, .iload_n (1), 0, 0, 0, 0),
  (182, 1, .iconst (4), 0, 0, 4, 0),
  (183, 3, .if_icmp .ge (22), 205, 0, 0, 0),
  (186, 1, .aload_n (0), 0, 0, 0, 0),
  (187, 3, .getfield (7), 6, 0, 0, 0),
  (190, 3, .sipush (1026), 0, 0, 1026, 0),
  (193, 1, .iload_n (1), 0, 0, 0, 0),
  (194, 1, .imul, 0, 0, 0, 0),
  (195, 1, .iconst (0), 0, 0, 0, 0),
  (196, 1, .iadd, 0, 0, 0, 0),
  (197, 1, .iconst (-1), 0, 0, (-1), 0),
  (198, 1, .iastore, 0, 0, 0, 0),
  (199, 3, .iinc (1) (1), 0, 0, 1, 0),
  (202, 3, .goto (-21), 181, 0, 0, 0),
  (205, 1, .return_, 0, 0, 0, 0)]
def md_Mod_init : Md := (y_Mod_init, prog_8_method_1_code, 2, none, pm_Mod_init)
theorem tk_Mod_init : Tm md_Mod_init := tab_of (o := 6) (by decide +kernel)
set_option maxRecDepth 100000 in
theorem oki_Mod : MdI md_Mod_init 0 := ⟨T1_in4 (i := 122) rfl rfl, T1_in1 (i := 8) rfl rfl, rfl, T1_in4 (i := 121) rfl rfl, ⟨by decide +kernel, by decide +kernel⟩, by decide +kernel, by decide⟩
theorem di_Mod_0 : decode md_Mod_init.2.1 0 = .ok (.aload_n (0), 1) := (dec_at tk_Mod_init (pc1 := 0) rfl rfl).1
theorem di_Mod_1 : decode md_Mod_init.2.1 1 = .ok (.invokespecial (1), 3) := (dec_at tk_Mod_init (pc1 := 1) rfl rfl).1
theorem di_Mod_4 : decode md_Mod_init.2.1 4 = .ok (.aload_n (0), 1) := (dec_at tk_Mod_init (pc1 := 4) rfl rfl).1
theorem di_Mod_5 : decode md_Mod_init.2.1 5 = .ok (.sipush (4104), 3) := (dec_at tk_Mod_init (pc1 := 5) rfl rfl).1
theorem di_Mod_8 : decode md_Mod_init.2.1 8 = .ok (.newarray .int, 2) := (dec_at tk_Mod_init (pc1 := 8) rfl rfl).1
theorem di_Mod_10 : decode md_Mod_init.2.1 10 = .ok (.putfield (7), 3) := (dec_at tk_Mod_init (pc1 := 10) rfl rfl).1
theorem df_Mod_10 : fldW md_Mod_init.1.cls 7 6 0 := (dec_at tk_Mod_init (pc1 := 10) rfl rfl).2
theorem di_Mod_13 : decode md_Mod_init.2.1 13 = .ok (.aload_n (0), 1) := (dec_at tk_Mod_init (pc1 := 13) rfl rfl).1
theorem di_Mod_14 : decode md_Mod_init.2.1 14 = .ok (.iconst (5), 1) := (dec_at tk_Mod_init (pc1 := 14) rfl rfl).1
theorem di_Mod_15 : decode md_Mod_init.2.1 15 = .ok (.newarray .int, 2) := (dec_at tk_Mod_init (pc1 := 15) rfl rfl).1
theorem di_Mod_17 : decode md_Mod_init.2.1 17 = .ok (.putfield (13), 3) := (dec_at tk_Mod_init (pc1 := 17) rfl rfl).1
theorem df_Mod_17 : fldW md_Mod_init.1.cls 13 6 2 := (dec_at tk_Mod_init (pc1 := 17) rfl rfl).2
theorem di_Mod_20 : decode md_Mod_init.2.1 20 = .ok (.aload_n (0), 1) := (dec_at tk_Mod_init (pc1 := 20) rfl rfl).1
theorem di_Mod_21 : decode md_Mod_init.2.1 21 = .ok (.iconst (5), 1) := (dec_at tk_Mod_init (pc1 := 21) rfl rfl).1
theorem di_Mod_22 : decode md_Mod_init.2.1 22 = .ok (.newarray .int, 2) := (dec_at tk_Mod_init (pc1 := 22) rfl rfl).1
theorem di_Mod_24 : decode md_Mod_init.2.1 24 = .ok (.putfield (16), 3) := (dec_at tk_Mod_init (pc1 := 24) rfl rfl).1
theorem df_Mod_24 : fldW md_Mod_init.1.cls 16 6 3 := (dec_at tk_Mod_init (pc1 := 24) rfl rfl).2
theorem di_Mod_27 : decode md_Mod_init.2.1 27 = .ok (.aload_n (0), 1) := (dec_at tk_Mod_init (pc1 := 27) rfl rfl).1
theorem di_Mod_28 : decode md_Mod_init.2.1 28 = .ok (.bipush (8), 2) := (dec_at tk_Mod_init (pc1 := 28) rfl rfl).1
theorem di_Mod_30 : decode md_Mod_init.2.1 30 = .ok (.newarray .int, 2) := (dec_at tk_Mod_init (pc1 := 30) rfl rfl).1
theorem di_Mod_32 : decode md_Mod_init.2.1 32 = .ok (.putfield (19), 3) := (dec_at tk_Mod_init (pc1 := 32) rfl rfl).1
theorem df_Mod_32 : fldW md_Mod_init.1.cls 19 6 4 := (dec_at tk_Mod_init (pc1 := 32) rfl rfl).2
theorem di_Mod_35 : decode md_Mod_init.2.1 35 = .ok (.aload_n (0), 1) := (dec_at tk_Mod_init (pc1 := 35) rfl rfl).1
theorem di_Mod_36 : decode md_Mod_init.2.1 36 = .ok (.bipush (6), 2) := (dec_at tk_Mod_init (pc1 := 36) rfl rfl).1
theorem di_Mod_38 : decode md_Mod_init.2.1 38 = .ok (.newarray .int, 2) := (dec_at tk_Mod_init (pc1 := 38) rfl rfl).1
theorem di_Mod_40 : decode md_Mod_init.2.1 40 = .ok (.dup, 1) := (dec_at tk_Mod_init (pc1 := 40) rfl rfl).1
theorem di_Mod_41 : decode md_Mod_init.2.1 41 = .ok (.iconst (0), 1) := (dec_at tk_Mod_init (pc1 := 41) rfl rfl).1
theorem di_Mod_42 : decode md_Mod_init.2.1 42 = .ok (.iconst (-1), 1) := (dec_at tk_Mod_init (pc1 := 42) rfl rfl).1
theorem di_Mod_43 : decode md_Mod_init.2.1 43 = .ok (.iastore, 1) := (dec_at tk_Mod_init (pc1 := 43) rfl rfl).1
theorem di_Mod_44 : decode md_Mod_init.2.1 44 = .ok (.dup, 1) := (dec_at tk_Mod_init (pc1 := 44) rfl rfl).1
theorem di_Mod_45 : decode md_Mod_init.2.1 45 = .ok (.iconst (1), 1) := (dec_at tk_Mod_init (pc1 := 45) rfl rfl).1
theorem di_Mod_46 : decode md_Mod_init.2.1 46 = .ok (.iconst (-1), 1) := (dec_at tk_Mod_init (pc1 := 46) rfl rfl).1
theorem di_Mod_47 : decode md_Mod_init.2.1 47 = .ok (.iastore, 1) := (dec_at tk_Mod_init (pc1 := 47) rfl rfl).1
theorem di_Mod_48 : decode md_Mod_init.2.1 48 = .ok (.dup, 1) := (dec_at tk_Mod_init (pc1 := 48) rfl rfl).1
theorem di_Mod_49 : decode md_Mod_init.2.1 49 = .ok (.iconst (2), 1) := (dec_at tk_Mod_init (pc1 := 49) rfl rfl).1
theorem di_Mod_50 : decode md_Mod_init.2.1 50 = .ok (.iconst (-1), 1) := (dec_at tk_Mod_init (pc1 := 50) rfl rfl).1
theorem di_Mod_51 : decode md_Mod_init.2.1 51 = .ok (.iastore, 1) := (dec_at tk_Mod_init (pc1 := 51) rfl rfl).1
theorem di_Mod_52 : decode md_Mod_init.2.1 52 = .ok (.dup, 1) := (dec_at tk_Mod_init (pc1 := 52) rfl rfl).1
theorem di_Mod_53 : decode md_Mod_init.2.1 53 = .ok (.iconst (3), 1) := (dec_at tk_Mod_init (pc1 := 53) rfl rfl).1
theorem di_Mod_54 : decode md_Mod_init.2.1 54 = .ok (.iconst (-1), 1) := (dec_at tk_Mod_init (pc1 := 54) rfl rfl).1
theorem di_Mod_55 : decode md_Mod_init.2.1 55 = .ok (.iastore, 1) := (dec_at tk_Mod_init (pc1 := 55) rfl rfl).1
theorem di_Mod_56 : decode md_Mod_init.2.1 56 = .ok (.dup, 1) := (dec_at tk_Mod_init (pc1 := 56) rfl rfl).1
theorem di_Mod_57 : decode md_Mod_init.2.1 57 = .ok (.iconst (4), 1) := (dec_at tk_Mod_init (pc1 := 57) rfl rfl).1
theorem di_Mod_58 : decode md_Mod_init.2.1 58 = .ok (.iconst (-1), 1) := (dec_at tk_Mod_init (pc1 := 58) rfl rfl).1
theorem di_Mod_59 : decode md_Mod_init.2.1 59 = .ok (.iastore, 1) := (dec_at tk_Mod_init (pc1 := 59) rfl rfl).1
theorem di_Mod_60 : decode md_Mod_init.2.1 60 = .ok (.dup, 1) := (dec_at tk_Mod_init (pc1 := 60) rfl rfl).1
theorem di_Mod_61 : decode md_Mod_init.2.1 61 = .ok (.iconst (5), 1) := (dec_at tk_Mod_init (pc1 := 61) rfl rfl).1
theorem di_Mod_62 : decode md_Mod_init.2.1 62 = .ok (.iconst (-1), 1) := (dec_at tk_Mod_init (pc1 := 62) rfl rfl).1
theorem di_Mod_63 : decode md_Mod_init.2.1 63 = .ok (.iastore, 1) := (dec_at tk_Mod_init (pc1 := 63) rfl rfl).1
theorem di_Mod_64 : decode md_Mod_init.2.1 64 = .ok (.putfield (22), 3) := (dec_at tk_Mod_init (pc1 := 64) rfl rfl).1
theorem df_Mod_64 : fldW md_Mod_init.1.cls 22 6 5 := (dec_at tk_Mod_init (pc1 := 64) rfl rfl).2
theorem di_Mod_67 : decode md_Mod_init.2.1 67 = .ok (.aload_n (0), 1) := (dec_at tk_Mod_init (pc1 := 67) rfl rfl).1
theorem di_Mod_68 : decode md_Mod_init.2.1 68 = .ok (.sipush (240), 3) := (dec_at tk_Mod_init (pc1 := 68) rfl rfl).1
theorem di_Mod_71 : decode md_Mod_init.2.1 71 = .ok (.newarray .int, 2) := (dec_at tk_Mod_init (pc1 := 71) rfl rfl).1
theorem di_Mod_73 : decode md_Mod_init.2.1 73 = .ok (.putfield (25), 3) := (dec_at tk_Mod_init (pc1 := 73) rfl rfl).1
theorem df_Mod_73 : fldW md_Mod_init.1.cls 25 6 6 := (dec_at tk_Mod_init (pc1 := 73) rfl rfl).2
theorem di_Mod_76 : decode md_Mod_init.2.1 76 = .ok (.aload_n (0), 1) := (dec_at tk_Mod_init (pc1 := 76) rfl rfl).1
theorem di_Mod_77 : decode md_Mod_init.2.1 77 = .ok (.iconst (4), 1) := (dec_at tk_Mod_init (pc1 := 77) rfl rfl).1
theorem di_Mod_78 : decode md_Mod_init.2.1 78 = .ok (.newarray .int, 2) := (dec_at tk_Mod_init (pc1 := 78) rfl rfl).1
theorem di_Mod_80 : decode md_Mod_init.2.1 80 = .ok (.dup, 1) := (dec_at tk_Mod_init (pc1 := 80) rfl rfl).1
theorem di_Mod_81 : decode md_Mod_init.2.1 81 = .ok (.iconst (0), 1) := (dec_at tk_Mod_init (pc1 := 81) rfl rfl).1
theorem di_Mod_82 : decode md_Mod_init.2.1 82 = .ok (.iconst (-1), 1) := (dec_at tk_Mod_init (pc1 := 82) rfl rfl).1
theorem di_Mod_83 : decode md_Mod_init.2.1 83 = .ok (.iastore, 1) := (dec_at tk_Mod_init (pc1 := 83) rfl rfl).1
theorem di_Mod_84 : decode md_Mod_init.2.1 84 = .ok (.dup, 1) := (dec_at tk_Mod_init (pc1 := 84) rfl rfl).1
theorem di_Mod_85 : decode md_Mod_init.2.1 85 = .ok (.iconst (1), 1) := (dec_at tk_Mod_init (pc1 := 85) rfl rfl).1
theorem di_Mod_86 : decode md_Mod_init.2.1 86 = .ok (.iconst (-1), 1) := (dec_at tk_Mod_init (pc1 := 86) rfl rfl).1
theorem di_Mod_87 : decode md_Mod_init.2.1 87 = .ok (.iastore, 1) := (dec_at tk_Mod_init (pc1 := 87) rfl rfl).1
theorem di_Mod_88 : decode md_Mod_init.2.1 88 = .ok (.dup, 1) := (dec_at tk_Mod_init (pc1 := 88) rfl rfl).1
theorem di_Mod_89 : decode md_Mod_init.2.1 89 = .ok (.iconst (2), 1) := (dec_at tk_Mod_init (pc1 := 89) rfl rfl).1
theorem di_Mod_90 : decode md_Mod_init.2.1 90 = .ok (.iconst (-1), 1) := (dec_at tk_Mod_init (pc1 := 90) rfl rfl).1
theorem di_Mod_91 : decode md_Mod_init.2.1 91 = .ok (.iastore, 1) := (dec_at tk_Mod_init (pc1 := 91) rfl rfl).1
theorem di_Mod_92 : decode md_Mod_init.2.1 92 = .ok (.dup, 1) := (dec_at tk_Mod_init (pc1 := 92) rfl rfl).1
theorem di_Mod_93 : decode md_Mod_init.2.1 93 = .ok (.iconst (3), 1) := (dec_at tk_Mod_init (pc1 := 93) rfl rfl).1
theorem di_Mod_94 : decode md_Mod_init.2.1 94 = .ok (.iconst (-1), 1) := (dec_at tk_Mod_init (pc1 := 94) rfl rfl).1
theorem di_Mod_95 : decode md_Mod_init.2.1 95 = .ok (.iastore, 1) := (dec_at tk_Mod_init (pc1 := 95) rfl rfl).1
theorem di_Mod_96 : decode md_Mod_init.2.1 96 = .ok (.putfield (28), 3) := (dec_at tk_Mod_init (pc1 := 96) rfl rfl).1
theorem df_Mod_96 : fldW md_Mod_init.1.cls 28 6 7 := (dec_at tk_Mod_init (pc1 := 96) rfl rfl).2
theorem di_Mod_99 : decode md_Mod_init.2.1 99 = .ok (.aload_n (0), 1) := (dec_at tk_Mod_init (pc1 := 99) rfl rfl).1
theorem di_Mod_100 : decode md_Mod_init.2.1 100 = .ok (.sipush (240), 3) := (dec_at tk_Mod_init (pc1 := 100) rfl rfl).1
theorem di_Mod_103 : decode md_Mod_init.2.1 103 = .ok (.newarray .int, 2) := (dec_at tk_Mod_init (pc1 := 103) rfl rfl).1
theorem di_Mod_105 : decode md_Mod_init.2.1 105 = .ok (.putfield (31), 3) := (dec_at tk_Mod_init (pc1 := 105) rfl rfl).1
theorem df_Mod_105 : fldW md_Mod_init.1.cls 31 6 8 := (dec_at tk_Mod_init (pc1 := 105) rfl rfl).2
theorem di_Mod_108 : decode md_Mod_init.2.1 108 = .ok (.aload_n (0), 1) := (dec_at tk_Mod_init (pc1 := 108) rfl rfl).1
theorem di_Mod_109 : decode md_Mod_init.2.1 109 = .ok (.lconst (1), 1) := (dec_at tk_Mod_init (pc1 := 109) rfl rfl).1
theorem di_Mod_110 : decode md_Mod_init.2.1 110 = .ok (.putfield (34), 3) := (dec_at tk_Mod_init (pc1 := 110) rfl rfl).1
theorem df_Mod_110 : fldW md_Mod_init.1.cls 34 6 11 := (dec_at tk_Mod_init (pc1 := 110) rfl rfl).2
theorem di_Mod_113 : decode md_Mod_init.2.1 113 = .ok (.aload_n (0), 1) := (dec_at tk_Mod_init (pc1 := 113) rfl rfl).1
theorem di_Mod_114 : decode md_Mod_init.2.1 114 = .ok (.bipush (6), 2) := (dec_at tk_Mod_init (pc1 := 114) rfl rfl).1
theorem di_Mod_116 : decode md_Mod_init.2.1 116 = .ok (.newarray .int, 2) := (dec_at tk_Mod_init (pc1 := 116) rfl rfl).1
theorem di_Mod_118 : decode md_Mod_init.2.1 118 = .ok (.putfield (38), 3) := (dec_at tk_Mod_init (pc1 := 118) rfl rfl).1
theorem df_Mod_118 : fldW md_Mod_init.1.cls 38 6 13 := (dec_at tk_Mod_init (pc1 := 118) rfl rfl).2
theorem di_Mod_121 : decode md_Mod_init.2.1 121 = .ok (.aload_n (0), 1) := (dec_at tk_Mod_init (pc1 := 121) rfl rfl).1
theorem di_Mod_122 : decode md_Mod_init.2.1 122 = .ok (.bipush (8), 2) := (dec_at tk_Mod_init (pc1 := 122) rfl rfl).1
theorem di_Mod_124 : decode md_Mod_init.2.1 124 = .ok (.newarray .int, 2) := (dec_at tk_Mod_init (pc1 := 124) rfl rfl).1
theorem di_Mod_126 : decode md_Mod_init.2.1 126 = .ok (.putfield (41), 3) := (dec_at tk_Mod_init (pc1 := 126) rfl rfl).1
theorem df_Mod_126 : fldW md_Mod_init.1.cls 41 6 17 := (dec_at tk_Mod_init (pc1 := 126) rfl rfl).2
theorem di_Mod_129 : decode md_Mod_init.2.1 129 = .ok (.aload_n (0), 1) := (dec_at tk_Mod_init (pc1 := 129) rfl rfl).1
theorem di_Mod_130 : decode md_Mod_init.2.1 130 = .ok (.bipush (15), 2) := (dec_at tk_Mod_init (pc1 := 130) rfl rfl).1
theorem di_Mod_132 : decode md_Mod_init.2.1 132 = .ok (.newarray .int, 2) := (dec_at tk_Mod_init (pc1 := 132) rfl rfl).1
theorem di_Mod_134 : decode md_Mod_init.2.1 134 = .ok (.putfield (44), 3) := (dec_at tk_Mod_init (pc1 := 134) rfl rfl).1
theorem df_Mod_134 : fldW md_Mod_init.1.cls 44 6 18 := (dec_at tk_Mod_init (pc1 := 134) rfl rfl).2
theorem di_Mod_137 : decode md_Mod_init.2.1 137 = .ok (.aload_n (0), 1) := (dec_at tk_Mod_init (pc1 := 137) rfl rfl).1
theorem di_Mod_138 : decode md_Mod_init.2.1 138 = .ok (.iconst (5), 1) := (dec_at tk_Mod_init (pc1 := 138) rfl rfl).1
theorem di_Mod_139 : decode md_Mod_init.2.1 139 = .ok (.newarray .int, 2) := (dec_at tk_Mod_init (pc1 := 139) rfl rfl).1
theorem di_Mod_141 : decode md_Mod_init.2.1 141 = .ok (.putfield (47), 3) := (dec_at tk_Mod_init (pc1 := 141) rfl rfl).1
theorem df_Mod_141 : fldW md_Mod_init.1.cls 47 6 20 := (dec_at tk_Mod_init (pc1 := 141) rfl rfl).2
theorem di_Mod_144 : decode md_Mod_init.2.1 144 = .ok (.aload_n (0), 1) := (dec_at tk_Mod_init (pc1 := 144) rfl rfl).1
theorem di_Mod_145 : decode md_Mod_init.2.1 145 = .ok (.iconst (5), 1) := (dec_at tk_Mod_init (pc1 := 145) rfl rfl).1
theorem di_Mod_146 : decode md_Mod_init.2.1 146 = .ok (.newarray .int, 2) := (dec_at tk_Mod_init (pc1 := 146) rfl rfl).1
theorem di_Mod_148 : decode md_Mod_init.2.1 148 = .ok (.putfield (50), 3) := (dec_at tk_Mod_init (pc1 := 148) rfl rfl).1
theorem df_Mod_148 : fldW md_Mod_init.1.cls 50 6 21 := (dec_at tk_Mod_init (pc1 := 148) rfl rfl).2
theorem di_Mod_151 : decode md_Mod_init.2.1 151 = .ok (.aload_n (0), 1) := (dec_at tk_Mod_init (pc1 := 151) rfl rfl).1
theorem di_Mod_152 : decode md_Mod_init.2.1 152 = .ok (.bipush (-9), 2) := (dec_at tk_Mod_init (pc1 := 152) rfl rfl).1
theorem di_Mod_154 : decode md_Mod_init.2.1 154 = .ok (.putfield (53), 3) := (dec_at tk_Mod_init (pc1 := 154) rfl rfl).1
theorem df_Mod_154 : fldW md_Mod_init.1.cls 53 6 24 := (dec_at tk_Mod_init (pc1 := 154) rfl rfl).2
theorem di_Mod_157 : decode md_Mod_init.2.1 157 = .ok (.aload_n (0), 1) := (dec_at tk_Mod_init (pc1 := 157) rfl rfl).1
theorem di_Mod_158 : decode md_Mod_init.2.1 158 = .ok (.bipush (-9), 2) := (dec_at tk_Mod_init (pc1 := 158) rfl rfl).1
theorem di_Mod_160 : decode md_Mod_init.2.1 160 = .ok (.putfield (57), 3) := (dec_at tk_Mod_init (pc1 := 160) rfl rfl).1
theorem df_Mod_160 : fldW md_Mod_init.1.cls 57 6 25 := (dec_at tk_Mod_init (pc1 := 160) rfl rfl).2
theorem di_Mod_163 : decode md_Mod_init.2.1 163 = .ok (.aload_n (0), 1) := (dec_at tk_Mod_init (pc1 := 163) rfl rfl).1
theorem di_Mod_164 : decode md_Mod_init.2.1 164 = .ok (.iconst (5), 1) := (dec_at tk_Mod_init (pc1 := 164) rfl rfl).1
theorem di_Mod_165 : decode md_Mod_init.2.1 165 = .ok (.newarray .int, 2) := (dec_at tk_Mod_init (pc1 := 165) rfl rfl).1
theorem di_Mod_167 : decode md_Mod_init.2.1 167 = .ok (.putfield (60), 3) := (dec_at tk_Mod_init (pc1 := 167) rfl rfl).1
theorem df_Mod_167 : fldW md_Mod_init.1.cls 60 6 27 := (dec_at tk_Mod_init (pc1 := 167) rfl rfl).2
theorem di_Mod_170 : decode md_Mod_init.2.1 170 = .ok (.aload_n (0), 1) := (dec_at tk_Mod_init (pc1 := 170) rfl rfl).1
theorem di_Mod_171 : decode md_Mod_init.2.1 171 = .ok (.sipush (600), 3) := (dec_at tk_Mod_init (pc1 := 171) rfl rfl).1
theorem di_Mod_174 : decode md_Mod_init.2.1 174 = .ok (.newarray .int, 2) := (dec_at tk_Mod_init (pc1 := 174) rfl rfl).1
theorem di_Mod_176 : decode md_Mod_init.2.1 176 = .ok (.putfield (63), 3) := (dec_at tk_Mod_init (pc1 := 176) rfl rfl).1
theorem df_Mod_176 : fldW md_Mod_init.1.cls 63 6 28 := (dec_at tk_Mod_init (pc1 := 176) rfl rfl).2
theorem di_Mod_179 : decode md_Mod_init.2.1 179 = .ok (.iconst (1), 1) := (dec_at tk_Mod_init (pc1 := 179) rfl rfl).1
theorem di_Mod_180 : decode md_Mod_init.2.1 180 = .ok (.istore_n (1), 1) := (dec_at tk_Mod_init (pc1 := 180) rfl rfl).1
theorem di_Mod_181 : decode md_Mod_init.2.1 181 = .ok (.iload_n (1), 1) := (dec_at tk_Mod_init (pc1 := 181) rfl rfl).1
theorem di_Mod_182 : decode md_Mod_init.2.1 182 = .ok (.iconst (4), 1) := (dec_at tk_Mod_init (pc1 := 182) rfl rfl).1
theorem di_Mod_183 : decode md_Mod_init.2.1 183 = .ok (.if_icmp .ge (22), 3) := (dec_at tk_Mod_init (pc1 := 183) rfl rfl).1
theorem di_Mod_186 : decode md_Mod_init.2.1 186 = .ok (.aload_n (0), 1) := (dec_at tk_Mod_init (pc1 := 186) rfl rfl).1
theorem di_Mod_187 : decode md_Mod_init.2.1 187 = .ok (.getfield (7), 3) := (dec_at tk_Mod_init (pc1 := 187) rfl rfl).1
theorem df_Mod_187 : fldW md_Mod_init.1.cls 7 6 0 := (dec_at tk_Mod_init (pc1 := 187) rfl rfl).2
theorem di_Mod_190 : decode md_Mod_init.2.1 190 = .ok (.sipush (1026), 3) := (dec_at tk_Mod_init (pc1 := 190) rfl rfl).1
theorem di_Mod_193 : decode md_Mod_init.2.1 193 = .ok (.iload_n (1), 1) := (dec_at tk_Mod_init (pc1 := 193) rfl rfl).1
theorem di_Mod_194 : decode md_Mod_init.2.1 194 = .ok (.imul, 1) := (dec_at tk_Mod_init (pc1 := 194) rfl rfl).1
theorem di_Mod_195 : decode md_Mod_init.2.1 195 = .ok (.iconst (0), 1) := (dec_at tk_Mod_init (pc1 := 195) rfl rfl).1
theorem di_Mod_196 : decode md_Mod_init.2.1 196 = .ok (.iadd, 1) := (dec_at tk_Mod_init (pc1 := 196) rfl rfl).1
theorem di_Mod_197 : decode md_Mod_init.2.1 197 = .ok (.iconst (-1), 1) := (dec_at tk_Mod_init (pc1 := 197) rfl rfl).1
theorem di_Mod_198 : decode md_Mod_init.2.1 198 = .ok (.iastore, 1) := (dec_at tk_Mod_init (pc1 := 198) rfl rfl).1
theorem di_Mod_199 : decode md_Mod_init.2.1 199 = .ok (.iinc (1) (1), 3) := (dec_at tk_Mod_init (pc1 := 199) rfl rfl).1
theorem di_Mod_202 : decode md_Mod_init.2.1 202 = .ok (.goto (-21), 3) := (dec_at tk_Mod_init (pc1 := 202) rfl rfl).1
theorem di_Mod_205 : decode md_Mod_init.2.1 205 = .ok (.return_, 1) := (dec_at tk_Mod_init (pc1 := 205) rfl rfl).1
set_option maxRecDepth 100000 in
theorem lo_Shelf : Cond.methodLink md_Shelf_init.1.cls 1 Lib.objectInit ∈ T1 := T1_in1 (i := 25) rfl rfl
set_option maxRecDepth 100000 in
theorem lo_Camp : Cond.methodLink md_Camp_init.1.cls 5 Lib.objectInit ∈ T1 := T1_in1 (i := 46) rfl rfl
set_option maxRecDepth 100000 in
theorem lo_Orders : Cond.methodLink md_Orders_init.1.cls 3 Lib.objectInit ∈ T1 := T1_in1 (i := 140) rfl rfl
set_option maxRecDepth 100000 in
theorem lo_Plan : Cond.methodLink md_Plan_init.1.cls 3 Lib.objectInit ∈ T1 := T1_in1 (i := 154) rfl rfl
set_option maxRecDepth 100000 in
theorem lo_Reader : Cond.methodLink md_Reader_init.1.cls 3 Lib.objectInit ∈ T1 := T1_in1 (i := 118) rfl rfl
set_option maxRecDepth 100000 in
theorem lo_Tent : Cond.methodLink md_Tent_init.1.cls 1 Lib.objectInit ∈ T1 := T1_in1 (i := 17) rfl rfl
set_option maxRecDepth 100000 in
theorem lo_Mod : Cond.methodLink md_Mod_init.1.cls 1 Lib.objectInit ∈ T1 := T1_in4 (i := 123) rfl rfl
set_option maxRecDepth 100000 in
theorem cl_Law_7 : Cond.classLink "TentMiddleLaw" 7 "TentMiddle" ∈ T1 := T1_in1 (i := 12) rfl rfl
set_option maxRecDepth 100000 in
theorem in_Tent : Cond.instantiable "TentMiddle" 13 ∈ T1 := T1_in1 (i := 13) rfl rfl
set_option maxRecDepth 100000 in
theorem li_Law_9 : Cond.methodLink "TentMiddleLaw" 9 y_Tent_init ∈ T1 := T1_in1 (i := 14) rfl rfl
set_option maxRecDepth 100000 in
theorem cl_Tent_7 : Cond.classLink "TentMiddle" 7 "TentMiddle$Shelf" ∈ T1 := T1_in1 (i := 20) rfl rfl
set_option maxRecDepth 100000 in
theorem in_Shelf : Cond.instantiable "TentMiddle$Shelf" 3 ∈ T1 := T1_in1 (i := 21) rfl rfl
set_option maxRecDepth 100000 in
theorem li_Tent_11 : Cond.methodLink "TentMiddle" 11 y_Shelf_init ∈ T1 := T1_in1 (i := 22) rfl rfl
set_option maxRecDepth 100000 in
theorem cl_Tent_21 : Cond.classLink "TentMiddle" 21 "TentMiddle$Camp" ∈ T1 := T1_in1 (i := 41) rfl rfl
set_option maxRecDepth 100000 in
theorem in_Camp : Cond.instantiable "TentMiddle$Camp" 17 ∈ T1 := T1_in1 (i := 42) rfl rfl
set_option maxRecDepth 100000 in
theorem li_Tent_23 : Cond.methodLink "TentMiddle" 23 y_Camp_init ∈ T1 := T1_in1 (i := 43) rfl rfl
set_option maxRecDepth 100000 in
theorem cl_Tent_37 : Cond.classLink "TentMiddle" 37 "TentMiddle$Reader" ∈ T1 := T1_in1 (i := 113) rfl rfl
set_option maxRecDepth 100000 in
theorem in_Reader : Cond.instantiable "TentMiddle$Reader" 4 ∈ T1 := T1_in1 (i := 114) rfl rfl
set_option maxRecDepth 100000 in
theorem cl_Reader_9 : Cond.classLink "TentMiddle$Reader" 9 "TentMiddle$Camp" ∈ T1 := T1_in1 (i := 119) rfl rfl
set_option maxRecDepth 100000 in
theorem li_Reader_11 : Cond.methodLink "TentMiddle$Reader" 11 y_Camp_init ∈ T1 := T1_in1 (i := 120) rfl rfl
set_option maxRecDepth 100000 in
theorem cl_Tent_44 : Cond.classLink "TentMiddle" 44 "TentMiddle$Orders" ∈ T1 := T1_in1 (i := 135) rfl rfl
set_option maxRecDepth 100000 in
theorem in_Orders : Cond.instantiable "TentMiddle$Orders" 2 ∈ T1 := T1_in1 (i := 136) rfl rfl
set_option maxRecDepth 100000 in
theorem cl_Tent_51 : Cond.classLink "TentMiddle" 51 "TentMiddle$Plan" ∈ T1 := T1_in1 (i := 149) rfl rfl
set_option maxRecDepth 100000 in
theorem in_Plan : Cond.instantiable "TentMiddle$Plan" 9 ∈ T1 := T1_in1 (i := 150) rfl rfl
set_option maxRecDepth 100000 in
theorem cl_Law_10 : Cond.classLink "TentMiddleLaw" 10 "TentMiddleModel" ∈ T1 := T1_in4 (i := 118) rfl rfl
set_option maxRecDepth 100000 in
theorem in_Mod : Cond.instantiable "TentMiddleModel" 29 ∈ T1 := T1_in4 (i := 119) rfl rfl
set_option maxRecDepth 100000 in
theorem li_Law_12 : Cond.methodLink "TentMiddleLaw" 12 y_Mod_init ∈ T1 := T1_in4 (i := 120) rfl rfl
set_option maxRecDepth 100000 in
theorem iz_Shelf : Cond.initialized "TentMiddle$Shelf" ∈ T1 := T1_in1 (i := 2) rfl rfl
set_option maxRecDepth 100000 in
theorem iz_Camp : Cond.initialized "TentMiddle$Camp" ∈ T1 := T1_in1 (i := 4) rfl rfl
set_option maxRecDepth 100000 in
theorem iz_Orders : Cond.initialized "TentMiddle$Orders" ∈ T1 := T1_in1 (i := 6) rfl rfl
set_option maxRecDepth 100000 in
theorem iz_Plan : Cond.initialized "TentMiddle$Plan" ∈ T1 := T1_in1 (i := 7) rfl rfl
set_option maxRecDepth 100000 in
theorem iz_Reader : Cond.initialized "TentMiddle$Reader" ∈ T1 := T1_in1 (i := 5) rfl rfl
set_option maxRecDepth 100000 in
theorem iz_Tent : Cond.initialized "TentMiddle" ∈ T1 := T1_in1 (i := 1) rfl rfl
set_option maxRecDepth 100000 in
theorem iz_Mod : Cond.initialized "TentMiddleModel" ∈ T1 := T1_in1 (i := 8) rfl rfl
