/-! what the tables say, fact by fact (written by wip/whole/gen/emit.py) -/
theorem oi_X1_3 : Cond.methodLink RX1 3 Lib.objectInit ∈ gw := (at_gw 426 (by decide +kernel) rfl)
theorem oi_i : Cond.instanceMethod Lib.objectInit ∈ gw := (at_gw 177 (by decide +kernel) rfl)
theorem oi_c : Cond.code Lib.objectInit ⟨#[0xb1]⟩ 1 none ∈ gw := (at_gw 178 (by decide +kernel) rfl)
theorem cm_X1_11 : Cond.classLink RX1 11 ("[" ++ (FieldType.array .int).toString) ∈ gw := (at_gw 427 (by decide +kernel) rfl)
theorem ac_1 : Cond.arrayClass .int ∈ gw := (at_gw 196 (by decide +kernel) rfl)
theorem fl_X1_13_0w : FL RX1 13 0 0 (.array (.array .int)) true true := ⟨_, _, _, "RiddleRoad$Chains", cl_0, by decide, rfl, rfl, (fun _ _ => rfl), Or.inl (at_gw 428 (by decide +kernel) rfl), Or.inl rfl⟩
theorem nn_X1_13 : ∀ ref n ds host, Cond.fieldLinkNest RX1 13 ref n ds host ∉ nw := noNest (by decide +kernel)
theorem fl_X1_16_0w : FL RX1 16 0 1 (.array .int) true true := ⟨_, _, _, "RiddleRoad$Chains", cl_0, by decide, rfl, rfl, (fun _ _ => rfl), Or.inl (at_gw 430 (by decide +kernel) rfl), Or.inl rfl⟩
theorem nn_X1_16 : ∀ ref n ds host, Cond.fieldLinkNest RX1 16 ref n ds host ∉ nw := noNest (by decide +kernel)
theorem fl_X1_20_0w : FL RX1 20 0 2 (.array .int) true true := ⟨_, _, _, "RiddleRoad$Chains", cl_0, by decide, rfl, rfl, (fun _ _ => rfl), Or.inl (at_gw 432 (by decide +kernel) rfl), Or.inl rfl⟩
theorem nn_X1_20 : ∀ ref n ds host, Cond.fieldLinkNest RX1 20 ref n ds host ∉ nw := noNest (by decide +kernel)
theorem fl_X1_23_0w : FL RX1 23 0 3 (.int) false true := ⟨_, _, _, "RiddleRoad$Chains", cl_0, by decide, rfl, rfl, (fun _ b => by cases b), Or.inl (at_gw 433 (by decide +kernel) rfl), Or.inl rfl⟩
theorem fl_X1_23_0 : FL RX1 23 0 3 (.int) false false := ⟨_, _, _, "RiddleRoad$Chains", cl_0, by decide, rfl, rfl, (fun a _ => by cases a), Or.inl (at_gw 433 (by decide +kernel) rfl), Or.inl rfl⟩
theorem fl_X1_16_0 : FL RX1 16 0 1 (.array .int) true false := ⟨_, _, _, "RiddleRoad$Chains", cl_0, by decide, rfl, rfl, (fun a _ => by cases a), Or.inl (at_gw 430 (by decide +kernel) rfl), Or.inl rfl⟩
theorem ay_X1_27 : Cond.methodLink RX1 27 arraycopyName ∈ gw := (at_gw 607 (by decide +kernel) rfl)
theorem ay_n : Cond.native arraycopyName ∈ gw := (at_gw 515 (by decide +kernel) rfl)
theorem ay_s : Cond.static arraycopyName ∈ gw := (at_gw 514 (by decide +kernel) rfl)
theorem ay_i : Cond.initialized "java/lang/System" ∈ gw := (at_gw 159 (by decide +kernel) rfl)
theorem fl_X1_13_0 : FL RX1 13 0 0 (.array (.array .int)) true false := ⟨_, _, _, "RiddleRoad$Chains", cl_0, by decide, rfl, rfl, (fun a _ => by cases a), Or.inl (at_gw 428 (by decide +kernel) rfl), Or.inl rfl⟩
theorem mt_X1_44 : Cond.methodLink RX1 44 Lib.Math.min.name ∈ gw := (at_gw 575 (by decide +kernel) rfl)
theorem mt_s_min : Cond.static Lib.Math.min.name ∈ gw := (at_gw 245 (by decide +kernel) rfl)
theorem mt_i : Cond.initialized "java/lang/Math" ∈ gw := (at_gw 148 (by decide +kernel) rfl)
theorem mt_c_min : Cond.code Lib.Math.min.name Lib.Math.min.code 2 (some .int) ∈ gw := (at_gw 246 (by decide +kernel) rfl)
theorem kc_J6_265 : Cond.constant RJ6 265 (1431655765 : Int32) ∈ gw := (at_gw 527 (by decide +kernel) rfl)
theorem kc_J6_266 : Cond.constant RJ6 266 (858993459 : Int32) ∈ gw := (at_gw 528 (by decide +kernel) rfl)
theorem kc_J6_267 : Cond.constant RJ6 267 (252645135 : Int32) ∈ gw := (at_gw 529 (by decide +kernel) rfl)
theorem vl_X1_55 : VL RX1 55 RX1 yX1_alikeAt 3 := ⟨Or.inl (at_gw 581 (by decide +kernel) rfl), (at_gw 583 (by decide +kernel) rfl), (at_gw 13 (by decide +kernel) rfl), (at_gw 153 (by decide +kernel) rfl), ⟨by decide +kernel, by decide +kernel, by decide +kernel⟩⟩
theorem fl_X1_20_0 : FL RX1 20 0 2 (.array .int) true false := ⟨_, _, _, "RiddleRoad$Chains", cl_0, by decide, rfl, rfl, (fun a _ => by cases a), Or.inl (at_gw 432 (by decide +kernel) rfl), Or.inl rfl⟩
theorem mt_X1_59 : Cond.methodLink RX1 59 Lib.Math.max.name ∈ gw := (at_gw 585 (by decide +kernel) rfl)
theorem mt_s_max : Cond.static Lib.Math.max.name ∈ gw := (at_gw 248 (by decide +kernel) rfl)
theorem mt_c_max : Cond.code Lib.Math.max.name Lib.Math.max.code 2 (some .int) ∈ gw := (at_gw 249 (by decide +kernel) rfl)
theorem vl_X1_36 : VL RX1 36 RX1 yX1_gatesOfAll 0 := ⟨Or.inl (at_gw 571 (by decide +kernel) rfl), (at_gw 573 (by decide +kernel) rfl), (at_gw 11 (by decide +kernel) rfl), (at_gw 153 (by decide +kernel) rfl), ⟨by decide +kernel, by decide +kernel, by decide +kernel⟩⟩
theorem sl_X1_49 : SL RX1 49 yJ6_bitCount_0f7a4 1 := ⟨Or.inl (at_gw 576 (by decide +kernel) rfl), (at_gw 525 (by decide +kernel) rfl), (at_gw 168 (by decide +kernel) rfl), ⟨by decide +kernel, by decide +kernel, by decide +kernel⟩⟩
theorem vl_X1_40 : VL RX1 40 RX1 yX1_questionsFrom 2 := ⟨Or.inl (at_gw 577 (by decide +kernel) rfl), (at_gw 579 (by decide +kernel) rfl), (at_gw 12 (by decide +kernel) rfl), (at_gw 153 (by decide +kernel) rfl), ⟨by decide +kernel, by decide +kernel, by decide +kernel⟩⟩
theorem vl_X1_33 : VL RX1 33 RX1 yX1_weighAllSets 0 := ⟨Or.inl (at_gw 567 (by decide +kernel) rfl), (at_gw 569 (by decide +kernel) rfl), (at_gw 10 (by decide +kernel) rfl), (at_gw 153 (by decide +kernel) rfl), ⟨by decide +kernel, by decide +kernel, by decide +kernel⟩⟩
theorem oi_X3_3 : Cond.methodLink RX3 3 Lib.objectInit ∈ gw := (at_gw 243 (by decide +kernel) rfl)
theorem fl_X3_11_2w : FL RX3 11 2 3 (.array .int) true true := ⟨_, _, _, "RiddleRoad$Law", cl_2, by decide, rfl, rfl, (fun _ _ => rfl), Or.inl (at_gw 255 (by decide +kernel) rfl), Or.inl rfl⟩
theorem nn_X3_11 : ∀ ref n ds host, Cond.fieldLinkNest RX3 11 ref n ds host ∉ nw := noNest (by decide +kernel)
theorem fl_X3_15_2w : FL RX3 15 2 4 (.int) false true := ⟨_, _, _, "RiddleRoad$Law", cl_2, by decide, rfl, rfl, (fun _ b => by cases b), Or.inl (at_gw 256 (by decide +kernel) rfl), Or.inl rfl⟩
theorem mt_X3_19 : Cond.methodLink RX3 19 Lib.Math.min.name ∈ gw := (at_gw 244 (by decide +kernel) rfl)
theorem mt_X3_25 : Cond.methodLink RX3 25 Lib.Math.max.name ∈ gw := (at_gw 247 (by decide +kernel) rfl)
theorem fl_X3_28_2w : FL RX3 28 2 0 (.int) true true := ⟨_, _, _, "RiddleRoad$Law", cl_2, by decide, rfl, rfl, (fun _ _ => rfl), Or.inl (at_gw 251 (by decide +kernel) rfl), Or.inl rfl⟩
theorem nn_X3_28 : ∀ ref n ds host, Cond.fieldLinkNest RX3 28 ref n ds host ∉ nw := noNest (by decide +kernel)
theorem cn_X3_31 : Cond.classLink RX3 31 RX10 ∈ gw := (at_gw 250 (by decide +kernel) rfl)
theorem fl_X3_33_2w : FL RX3 33 2 1 (.array (.object "RiddleRoad$Token")) true true := ⟨_, _, _, "RiddleRoad$Law", cl_2, by decide, rfl, rfl, (fun _ _ => rfl), Or.inl (at_gw 253 (by decide +kernel) rfl), Or.inl rfl⟩
theorem nn_X3_33 : ∀ ref n ds host, Cond.fieldLinkNest RX3 33 ref n ds host ∉ nw := noNest (by decide +kernel)
theorem fl_X3_37_2w : FL RX3 37 2 2 (.array .int) true true := ⟨_, _, _, "RiddleRoad$Law", cl_2, by decide, rfl, rfl, (fun _ _ => rfl), Or.inl (at_gw 254 (by decide +kernel) rfl), Or.inl rfl⟩
theorem nn_X3_37 : ∀ ref n ds host, Cond.fieldLinkNest RX3 37 ref n ds host ∉ nw := noNest (by decide +kernel)
theorem fl_X3_33_2 : FL RX3 33 2 1 (.array (.object "RiddleRoad$Token")) true false := ⟨_, _, _, "RiddleRoad$Law", cl_2, by decide, rfl, rfl, (fun a _ => by cases a), Or.inl (at_gw 253 (by decide +kernel) rfl), Or.inl rfl⟩
theorem fl_X3_37_2 : FL RX3 37 2 2 (.array .int) true false := ⟨_, _, _, "RiddleRoad$Law", cl_2, by decide, rfl, rfl, (fun a _ => by cases a), Or.inl (at_gw 254 (by decide +kernel) rfl), Or.inl rfl⟩
theorem oi_X11_3 : Cond.methodLink RX11 3 Lib.objectInit ∈ gw := (at_gw 234 (by decide +kernel) rfl)
theorem fl_X11_9_7w : FL RX11 9 7 0 (.int) false true := ⟨_, _, _, "RiddleRoad$World", cl_7, by decide, rfl, rfl, (fun _ b => by cases b), Or.inl (at_gw 268 (by decide +kernel) rfl), Or.inl rfl⟩
theorem fl_X11_15_7w : FL RX11 15 7 1 (.array .int) true true := ⟨_, _, _, "RiddleRoad$World", cl_7, by decide, rfl, rfl, (fun _ _ => rfl), Or.inl (at_gw 272 (by decide +kernel) rfl), Or.inl rfl⟩
theorem nn_X11_15 : ∀ ref n ds host, Cond.fieldLinkNest RX11 15 ref n ds host ∉ nw := noNest (by decide +kernel)
theorem fl_X11_19_7w : FL RX11 19 7 2 (.array .int) true true := ⟨_, _, _, "RiddleRoad$World", cl_7, by decide, rfl, rfl, (fun _ _ => rfl), Or.inl (at_gw 274 (by decide +kernel) rfl), Or.inl rfl⟩
theorem nn_X11_19 : ∀ ref n ds host, Cond.fieldLinkNest RX11 19 ref n ds host ∉ nw := noNest (by decide +kernel)
theorem fl_X11_22_7w : FL RX11 22 7 3 (.array .int) true true := ⟨_, _, _, "RiddleRoad$World", cl_7, by decide, rfl, rfl, (fun _ _ => rfl), Or.inl (at_gw 277 (by decide +kernel) rfl), Or.inl rfl⟩
theorem nn_X11_22 : ∀ ref n ds host, Cond.fieldLinkNest RX11 22 ref n ds host ∉ nw := noNest (by decide +kernel)
theorem fl_X11_25_7w : FL RX11 25 7 4 (.int) false true := ⟨_, _, _, "RiddleRoad$World", cl_7, by decide, rfl, rfl, (fun _ b => by cases b), Or.inl (at_gw 279 (by decide +kernel) rfl), Or.inl rfl⟩
theorem fl_X11_28_7w : FL RX11 28 7 5 (.array .int) true true := ⟨_, _, _, "RiddleRoad$World", cl_7, by decide, rfl, rfl, (fun _ _ => rfl), Or.inl (at_gw 283 (by decide +kernel) rfl), Or.inl rfl⟩
theorem nn_X11_28 : ∀ ref n ds host, Cond.fieldLinkNest RX11 28 ref n ds host ∉ nw := noNest (by decide +kernel)
theorem fl_X11_31_7w : FL RX11 31 7 6 (.array .int) true true := ⟨_, _, _, "RiddleRoad$World", cl_7, by decide, rfl, rfl, (fun _ _ => rfl), Or.inl (at_gw 286 (by decide +kernel) rfl), Or.inl rfl⟩
theorem nn_X11_31 : ∀ ref n ds host, Cond.fieldLinkNest RX11 31 ref n ds host ∉ nw := noNest (by decide +kernel)
theorem fl_X11_34_7w : FL RX11 34 7 7 (.array .int) true true := ⟨_, _, _, "RiddleRoad$World", cl_7, by decide, rfl, rfl, (fun _ _ => rfl), Or.inl (at_gw 288 (by decide +kernel) rfl), Or.inl rfl⟩
theorem nn_X11_34 : ∀ ref n ds host, Cond.fieldLinkNest RX11 34 ref n ds host ∉ nw := noNest (by decide +kernel)
theorem fl_X11_37_7w : FL RX11 37 7 8 (.array .int) true true := ⟨_, _, _, "RiddleRoad$World", cl_7, by decide, rfl, rfl, (fun _ _ => rfl), Or.inl (at_gw 290 (by decide +kernel) rfl), Or.inl rfl⟩
theorem nn_X11_37 : ∀ ref n ds host, Cond.fieldLinkNest RX11 37 ref n ds host ∉ nw := noNest (by decide +kernel)
theorem fl_X11_40_7w : FL RX11 40 7 9 (.array .int) true true := ⟨_, _, _, "RiddleRoad$World", cl_7, by decide, rfl, rfl, (fun _ _ => rfl), Or.inl (at_gw 292 (by decide +kernel) rfl), Or.inl rfl⟩
theorem nn_X11_40 : ∀ ref n ds host, Cond.fieldLinkNest RX11 40 ref n ds host ∉ nw := noNest (by decide +kernel)
theorem cm_X11_43 : Cond.classLink RX11 43 ("[" ++ (FieldType.array .int).toString) ∈ gw := (at_gw 235 (by decide +kernel) rfl)
theorem fl_X11_45_7w : FL RX11 45 7 10 (.array (.array .int)) true true := ⟨_, _, _, "RiddleRoad$World", cl_7, by decide, rfl, rfl, (fun _ _ => rfl), Or.inl (at_gw 294 (by decide +kernel) rfl), Or.inl rfl⟩
theorem nn_X11_45 : ∀ ref n ds host, Cond.fieldLinkNest RX11 45 ref n ds host ∉ nw := noNest (by decide +kernel)
theorem fl_X11_48_7w : FL RX11 48 7 11 (.array (.array .int)) true true := ⟨_, _, _, "RiddleRoad$World", cl_7, by decide, rfl, rfl, (fun _ _ => rfl), Or.inl (at_gw 296 (by decide +kernel) rfl), Or.inl rfl⟩
theorem nn_X11_48 : ∀ ref n ds host, Cond.fieldLinkNest RX11 48 ref n ds host ∉ nw := noNest (by decide +kernel)
theorem fl_X11_51_7w : FL RX11 51 7 12 (.int) false true := ⟨_, _, _, "RiddleRoad$World", cl_7, by decide, rfl, rfl, (fun _ b => by cases b), Or.inl (at_gw 300 (by decide +kernel) rfl), Or.inl rfl⟩
theorem fl_X11_54_7w : FL RX11 54 7 13 (.int) false true := ⟨_, _, _, "RiddleRoad$World", cl_7, by decide, rfl, rfl, (fun _ b => by cases b), Or.inl (at_gw 303 (by decide +kernel) rfl), Or.inl rfl⟩
theorem fl_X11_57_7w : FL RX11 57 7 14 (.int) false true := ⟨_, _, _, "RiddleRoad$World", cl_7, by decide, rfl, rfl, (fun _ b => by cases b), Or.inl (at_gw 305 (by decide +kernel) rfl), Or.inl rfl⟩
theorem fl_X11_60_7w : FL RX11 60 7 15 (.int) false true := ⟨_, _, _, "RiddleRoad$World", cl_7, by decide, rfl, rfl, (fun _ b => by cases b), Or.inl (at_gw 308 (by decide +kernel) rfl), Or.inl rfl⟩
theorem fl_X11_63_7w : FL RX11 63 7 16 (.int) false true := ⟨_, _, _, "RiddleRoad$World", cl_7, by decide, rfl, rfl, (fun _ b => by cases b), Or.inl (at_gw 311 (by decide +kernel) rfl), Or.inl rfl⟩
theorem fl_X11_66_7w : FL RX11 66 7 17 (.int) false true := ⟨_, _, _, "RiddleRoad$World", cl_7, by decide, rfl, rfl, (fun _ b => by cases b), Or.inl (at_gw 313 (by decide +kernel) rfl), Or.inl rfl⟩
theorem fl_X11_69_7w : FL RX11 69 7 18 (.int) false true := ⟨_, _, _, "RiddleRoad$World", cl_7, by decide, rfl, rfl, (fun _ b => by cases b), Or.inl (at_gw 315 (by decide +kernel) rfl), Or.inl rfl⟩
theorem cn_X11_72 : Cond.classLink RX11 72 RX3 ∈ gw := (at_gw 237 (by decide +kernel) rfl)
theorem in_X3 : Cond.instantiable RX3 5 ∈ gw := (at_gw 238 (by decide +kernel) rfl)
theorem it_X3 : Cond.initialized RX3 ∈ gw := (at_gw 147 (by decide +kernel) rfl)
theorem cn_X11_74 : Cond.classLink RX11 74 RX10 ∈ gw := (at_gw 239 (by decide +kernel) rfl)
theorem il_X11_76 : IL RX11 76 yX3_init 4 := ⟨Or.inr ⟨"RiddleRoad", (at_nw 240 (by decide +kernel) rfl)⟩, (at_gw 241 (by decide +kernel) rfl), (at_gw 147 (by decide +kernel) rfl), ⟨by decide +kernel, by decide +kernel, by decide +kernel⟩, rfl⟩
theorem fl_X11_79_7w : FL RX11 79 7 19 (.object "RiddleRoad$Law") false true := ⟨_, _, _, "RiddleRoad$World", cl_7, by decide, rfl, rfl, (fun _ b => by cases b), Or.inl (at_gw 317 (by decide +kernel) rfl), Or.inl rfl⟩
theorem fl_X11_48_7 : FL RX11 48 7 11 (.array (.array .int)) true false := ⟨_, _, _, "RiddleRoad$World", cl_7, by decide, rfl, rfl, (fun a _ => by cases a), Or.inl (at_gw 296 (by decide +kernel) rfl), Or.inl rfl⟩
theorem oi_X2_1 : Cond.methodLink RX2 1 Lib.objectInit ∈ gw := (at_gw 406 (by decide +kernel) rfl)
theorem cn_X2_9 : Cond.classLink RX2 9 RX11 ∈ gw := (at_gw 407 (by decide +kernel) rfl)
theorem fl_X2_11_1w : FL RX2 11 1 0 (.array (.object "RiddleRoad$World")) true true := ⟨_, _, _, "RiddleRoad$History", cl_1, by decide, rfl, rfl, (fun _ _ => rfl), Or.inl (at_gw 410 (by decide +kernel) rfl), Or.inl rfl⟩
theorem nn_X2_11 : ∀ ref n ds host, Cond.fieldLinkNest RX2 11 ref n ds host ∉ nw := noNest (by decide +kernel)
theorem fl_X2_15_1w : FL RX2 15 1 1 (.int) false true := ⟨_, _, _, "RiddleRoad$History", cl_1, by decide, rfl, rfl, (fun _ b => by cases b), Or.inl (at_gw 411 (by decide +kernel) rfl), Or.inl rfl⟩
theorem fl_X2_19_1w : FL RX2 19 1 2 (.int) false true := ⟨_, _, _, "RiddleRoad$History", cl_1, by decide, rfl, rfl, (fun _ b => by cases b), Or.inl (at_gw 412 (by decide +kernel) rfl), Or.inl rfl⟩
theorem fl_X2_11_1 : FL RX2 11 1 0 (.array (.object "RiddleRoad$World")) true false := ⟨_, _, _, "RiddleRoad$History", cl_1, by decide, rfl, rfl, (fun a _ => by cases a), Or.inl (at_gw 410 (by decide +kernel) rfl), Or.inl rfl⟩
theorem in_X11 : Cond.instantiable RX11 20 ∈ gw := (at_gw 230 (by decide +kernel) rfl)
theorem it_X11 : Cond.initialized RX11 ∈ gw := (at_gw 146 (by decide +kernel) rfl)
theorem il_X2_22 : IL RX2 22 yX11_init 0 := ⟨Or.inr ⟨"RiddleRoad", (at_nw 409 (by decide +kernel) rfl)⟩, (at_gw 232 (by decide +kernel) rfl), (at_gw 146 (by decide +kernel) rfl), ⟨by decide +kernel, by decide +kernel, by decide +kernel⟩, rfl⟩
theorem fl_X11_9_7 : FL RX11 9 7 0 (.int) false false := ⟨_, _, _, "RiddleRoad$World", cl_7, by decide, rfl, rfl, (fun a _ => by cases a), Or.inl (at_gw 268 (by decide +kernel) rfl), Or.inl rfl⟩
theorem fl_X11_25_7 : FL RX11 25 7 4 (.int) false false := ⟨_, _, _, "RiddleRoad$World", cl_7, by decide, rfl, rfl, (fun a _ => by cases a), Or.inl (at_gw 279 (by decide +kernel) rfl), Or.inl rfl⟩
theorem fl_X11_51_7 : FL RX11 51 7 12 (.int) false false := ⟨_, _, _, "RiddleRoad$World", cl_7, by decide, rfl, rfl, (fun a _ => by cases a), Or.inl (at_gw 300 (by decide +kernel) rfl), Or.inl rfl⟩
theorem fl_X11_54_7 : FL RX11 54 7 13 (.int) false false := ⟨_, _, _, "RiddleRoad$World", cl_7, by decide, rfl, rfl, (fun a _ => by cases a), Or.inl (at_gw 303 (by decide +kernel) rfl), Or.inl rfl⟩
theorem fl_X11_57_7 : FL RX11 57 7 14 (.int) false false := ⟨_, _, _, "RiddleRoad$World", cl_7, by decide, rfl, rfl, (fun a _ => by cases a), Or.inl (at_gw 305 (by decide +kernel) rfl), Or.inl rfl⟩
theorem fl_X11_60_7 : FL RX11 60 7 15 (.int) false false := ⟨_, _, _, "RiddleRoad$World", cl_7, by decide, rfl, rfl, (fun a _ => by cases a), Or.inl (at_gw 308 (by decide +kernel) rfl), Or.inl rfl⟩
theorem fl_X11_63_7 : FL RX11 63 7 16 (.int) false false := ⟨_, _, _, "RiddleRoad$World", cl_7, by decide, rfl, rfl, (fun a _ => by cases a), Or.inl (at_gw 311 (by decide +kernel) rfl), Or.inl rfl⟩
theorem fl_X11_66_7 : FL RX11 66 7 17 (.int) false false := ⟨_, _, _, "RiddleRoad$World", cl_7, by decide, rfl, rfl, (fun a _ => by cases a), Or.inl (at_gw 313 (by decide +kernel) rfl), Or.inl rfl⟩
theorem fl_X11_69_7 : FL RX11 69 7 18 (.int) false false := ⟨_, _, _, "RiddleRoad$World", cl_7, by decide, rfl, rfl, (fun a _ => by cases a), Or.inl (at_gw 315 (by decide +kernel) rfl), Or.inl rfl⟩
theorem fl_X11_79_7 : FL RX11 79 7 19 (.object "RiddleRoad$Law") false false := ⟨_, _, _, "RiddleRoad$World", cl_7, by decide, rfl, rfl, (fun a _ => by cases a), Or.inl (at_gw 317 (by decide +kernel) rfl), Or.inl rfl⟩
theorem fl_X11_15_7 : FL RX11 15 7 1 (.array .int) true false := ⟨_, _, _, "RiddleRoad$World", cl_7, by decide, rfl, rfl, (fun a _ => by cases a), Or.inl (at_gw 272 (by decide +kernel) rfl), Or.inl rfl⟩
theorem ay_X11_83 : Cond.methodLink RX11 83 arraycopyName ∈ gw := (at_gw 513 (by decide +kernel) rfl)
theorem fl_X11_19_7 : FL RX11 19 7 2 (.array .int) true false := ⟨_, _, _, "RiddleRoad$World", cl_7, by decide, rfl, rfl, (fun a _ => by cases a), Or.inl (at_gw 274 (by decide +kernel) rfl), Or.inl rfl⟩
theorem fl_X11_22_7 : FL RX11 22 7 3 (.array .int) true false := ⟨_, _, _, "RiddleRoad$World", cl_7, by decide, rfl, rfl, (fun a _ => by cases a), Or.inl (at_gw 277 (by decide +kernel) rfl), Or.inl rfl⟩
theorem fl_X11_28_7 : FL RX11 28 7 5 (.array .int) true false := ⟨_, _, _, "RiddleRoad$World", cl_7, by decide, rfl, rfl, (fun a _ => by cases a), Or.inl (at_gw 283 (by decide +kernel) rfl), Or.inl rfl⟩
theorem fl_X11_31_7 : FL RX11 31 7 6 (.array .int) true false := ⟨_, _, _, "RiddleRoad$World", cl_7, by decide, rfl, rfl, (fun a _ => by cases a), Or.inl (at_gw 286 (by decide +kernel) rfl), Or.inl rfl⟩
theorem fl_X11_34_7 : FL RX11 34 7 7 (.array .int) true false := ⟨_, _, _, "RiddleRoad$World", cl_7, by decide, rfl, rfl, (fun a _ => by cases a), Or.inl (at_gw 288 (by decide +kernel) rfl), Or.inl rfl⟩
theorem fl_X11_37_7 : FL RX11 37 7 8 (.array .int) true false := ⟨_, _, _, "RiddleRoad$World", cl_7, by decide, rfl, rfl, (fun a _ => by cases a), Or.inl (at_gw 290 (by decide +kernel) rfl), Or.inl rfl⟩
theorem fl_X11_40_7 : FL RX11 40 7 9 (.array .int) true false := ⟨_, _, _, "RiddleRoad$World", cl_7, by decide, rfl, rfl, (fun a _ => by cases a), Or.inl (at_gw 292 (by decide +kernel) rfl), Or.inl rfl⟩
theorem fl_X11_45_7 : FL RX11 45 7 10 (.array (.array .int)) true false := ⟨_, _, _, "RiddleRoad$World", cl_7, by decide, rfl, rfl, (fun a _ => by cases a), Or.inl (at_gw 294 (by decide +kernel) rfl), Or.inl rfl⟩
theorem fl_X2_15_1 : FL RX2 15 1 1 (.int) false false := ⟨_, _, _, "RiddleRoad$History", cl_1, by decide, rfl, rfl, (fun a _ => by cases a), Or.inl (at_gw 411 (by decide +kernel) rfl), Or.inl rfl⟩
theorem fl_X2_19_1 : FL RX2 19 1 2 (.int) false false := ⟨_, _, _, "RiddleRoad$History", cl_1, by decide, rfl, rfl, (fun a _ => by cases a), Or.inl (at_gw 412 (by decide +kernel) rfl), Or.inl rfl⟩
theorem vl_X2_23 : VL RX2 23 RX11 yX11_copy 1 := ⟨Or.inr ⟨"RiddleRoad", (at_nw 509 (by decide +kernel) rfl)⟩, (at_gw 511 (by decide +kernel) rfl), (at_gw 3 (by decide +kernel) rfl), (at_gw 146 (by decide +kernel) rfl), ⟨by decide +kernel, by decide +kernel, by decide +kernel⟩⟩
theorem sm_X3_40 : Cond.fieldLink RX3 40 RX0 "$SwitchMap$RiddleRoad$Token" "[I" ∈ gw := (at_gw 783 (by decide +kernel) rfl)
theorem ul_X3_45_X10 : UL RX3 45 RX10 "java/lang/Enum" ⟨"RiddleRoad$Token", "ordinal", "()I"⟩ yJx29ce0_ordinal_8abf5 0 := ⟨(at_gw 785 (by decide +kernel) rfl), (at_gw 786 (by decide +kernel) rfl), (at_gw 788 (by decide +kernel) rfl), (at_gw 789 (by decide +kernel) rfl), (at_gw 144 (by decide +kernel) rfl), ⟨by decide +kernel, by decide +kernel, by decide +kernel⟩, Or.inr ⟨cJx29ce0_ordinal_8abf5, 1, some .int, (at_gw 789 (by decide +kernel) rfl), (at_gw 790 (by decide +kernel) rfl)⟩⟩
theorem fl_X3_15_2 : FL RX3 15 2 4 (.int) false false := ⟨_, _, _, "RiddleRoad$Law", cl_2, by decide, rfl, rfl, (fun a _ => by cases a), Or.inl (at_gw 256 (by decide +kernel) rfl), Or.inl rfl⟩
theorem fl_X3_11_2 : FL RX3 11 2 3 (.array .int) true false := ⟨_, _, _, "RiddleRoad$Law", cl_2, by decide, rfl, rfl, (fun a _ => by cases a), Or.inl (at_gw 255 (by decide +kernel) rfl), Or.inl rfl⟩
theorem sm_X11_106 : Cond.fieldLink RX11 106 RX0 "$SwitchMap$RiddleRoad$Token" "[I" ∈ gw := (at_gw 1104 (by decide +kernel) rfl)
theorem ul_X11_111_X10 : UL RX11 111 RX10 "java/lang/Enum" ⟨"RiddleRoad$Token", "ordinal", "()I"⟩ yJx29ce0_ordinal_8abf5 0 := ⟨(at_gw 1105 (by decide +kernel) rfl), (at_gw 786 (by decide +kernel) rfl), (at_gw 788 (by decide +kernel) rfl), (at_gw 789 (by decide +kernel) rfl), (at_gw 144 (by decide +kernel) rfl), ⟨by decide +kernel, by decide +kernel, by decide +kernel⟩, Or.inr ⟨cJx29ce0_ordinal_8abf5, 1, some .int, (at_gw 789 (by decide +kernel) rfl), (at_gw 790 (by decide +kernel) rfl)⟩⟩
theorem sl_X11_93 : SL RX11 93 yJ6_bitCount_0f7a4 1 := ⟨Or.inl (at_gw 524 (by decide +kernel) rfl), (at_gw 525 (by decide +kernel) rfl), (at_gw 168 (by decide +kernel) rfl), ⟨by decide +kernel, by decide +kernel, by decide +kernel⟩⟩
theorem vl_X3_49 : VL RX3 49 RX3 yX3_pop 0 := ⟨Or.inl (at_gw 1089 (by decide +kernel) rfl), (at_gw 1091 (by decide +kernel) rfl), (at_gw 57 (by decide +kernel) rfl), (at_gw 147 (by decide +kernel) rfl), ⟨by decide +kernel, by decide +kernel, by decide +kernel⟩⟩
theorem vl_X3_52 : VL RX3 52 RX3 yX3_push 1 := ⟨Or.inl (at_gw 1093 (by decide +kernel) rfl), (at_gw 1095 (by decide +kernel) rfl), (at_gw 58 (by decide +kernel) rfl), (at_gw 147 (by decide +kernel) rfl), ⟨by decide +kernel, by decide +kernel, by decide +kernel⟩⟩
theorem sl_X3_56 : SL RX3 56 yX3_joined 3 := ⟨Or.inl (at_gw 1097 (by decide +kernel) rfl), (at_gw 1098 (by decide +kernel) rfl), (at_gw 147 (by decide +kernel) rfl), ⟨by decide +kernel, by decide +kernel, by decide +kernel⟩⟩
theorem vl_X3_60 : VL RX3 60 RX11 yX11_fact 3 := ⟨Or.inr ⟨"RiddleRoad", (at_nw 1100 (by decide +kernel) rfl)⟩, (at_gw 1102 (by decide +kernel) rfl), (at_gw 59 (by decide +kernel) rfl), (at_gw 146 (by decide +kernel) rfl), ⟨by decide +kernel, by decide +kernel, by decide +kernel⟩⟩
theorem oi_X5_1 : Cond.methodLink RX5 1 Lib.objectInit ∈ gw := (at_gw 368 (by decide +kernel) rfl)
theorem fl_X5_7_3w : FL RX5 7 3 0 (.object "RiddleRoad$Text") true true := ⟨_, _, _, "RiddleRoad$LineReader", cl_3, by decide, rfl, rfl, (fun _ _ => rfl), Or.inl (at_gw 370 (by decide +kernel) rfl), Or.inl rfl⟩
theorem nn_X5_7 : ∀ ref n ds host, Cond.fieldLinkNest RX5 7 ref n ds host ∉ nw := noNest (by decide +kernel)
theorem il_X4_1 : IL RX4 1 yX5_init 1 := ⟨Or.inl (at_gw 385 (by decide +kernel) rfl), (at_gw 366 (by decide +kernel) rfl), (at_gw 149 (by decide +kernel) rfl), ⟨by decide +kernel, by decide +kernel, by decide +kernel⟩, rfl⟩
theorem cn_X4_9 : Cond.classLink RX4 9 RX10 ∈ gw := (at_gw 386 (by decide +kernel) rfl)
theorem fl_X4_11_3w : FL RX4 11 3 1 (.array (.object "RiddleRoad$Token")) true true := ⟨_, _, _, "RiddleRoad$LawReader", cl_3, by decide, rfl, rfl, (fun _ _ => rfl), Or.inl (at_gw 387 (by decide +kernel) rfl), Or.inl rfl⟩
theorem nn_X4_11 : ∀ ref n ds host, Cond.fieldLinkNest RX4 11 ref n ds host ∉ nw := noNest (by decide +kernel)
theorem fl_X4_17_3w : FL RX4 17 3 2 (.array .int) true true := ⟨_, _, _, "RiddleRoad$LawReader", cl_3, by decide, rfl, rfl, (fun _ _ => rfl), Or.inl (at_gw 388 (by decide +kernel) rfl), Or.inl rfl⟩
theorem nn_X4_17 : ∀ ref n ds host, Cond.fieldLinkNest RX4 17 ref n ds host ∉ nw := noNest (by decide +kernel)
theorem fl_X4_21_3w : FL RX4 21 3 3 (.int) false true := ⟨_, _, _, "RiddleRoad$LawReader", cl_3, by decide, rfl, rfl, (fun _ b => by cases b), Or.inl (at_gw 389 (by decide +kernel) rfl), Or.inl rfl⟩
theorem fl_X4_25_3w : FL RX4 25 3 4 (.int) false true := ⟨_, _, _, "RiddleRoad$LawReader", cl_3, by decide, rfl, rfl, (fun _ b => by cases b), Or.inl (at_gw 390 (by decide +kernel) rfl), Or.inl rfl⟩
theorem cn_X4_28 : Cond.classLink RX4 28 RX3 ∈ gw := (at_gw 976 (by decide +kernel) rfl)
theorem fl_X4_25_3 : FL RX4 25 3 4 (.int) false false := ⟨_, _, _, "RiddleRoad$LawReader", cl_3, by decide, rfl, rfl, (fun a _ => by cases a), Or.inl (at_gw 390 (by decide +kernel) rfl), Or.inl rfl⟩
theorem fl_X4_11_3 : FL RX4 11 3 1 (.array (.object "RiddleRoad$Token")) true false := ⟨_, _, _, "RiddleRoad$LawReader", cl_3, by decide, rfl, rfl, (fun a _ => by cases a), Or.inl (at_gw 387 (by decide +kernel) rfl), Or.inl rfl⟩
theorem fl_X4_17_3 : FL RX4 17 3 2 (.array .int) true false := ⟨_, _, _, "RiddleRoad$LawReader", cl_3, by decide, rfl, rfl, (fun a _ => by cases a), Or.inl (at_gw 388 (by decide +kernel) rfl), Or.inl rfl⟩
theorem fl_X4_21_3 : FL RX4 21 3 3 (.int) false false := ⟨_, _, _, "RiddleRoad$LawReader", cl_3, by decide, rfl, rfl, (fun a _ => by cases a), Or.inl (at_gw 389 (by decide +kernel) rfl), Or.inl rfl⟩
theorem il_X4_30 : IL RX4 30 yX3_init 4 := ⟨Or.inr ⟨"RiddleRoad", (at_nw 977 (by decide +kernel) rfl)⟩, (at_gw 241 (by decide +kernel) rfl), (at_gw 147 (by decide +kernel) rfl), ⟨by decide +kernel, by decide +kernel, by decide +kernel⟩, rfl⟩
theorem fl_X9_13_6 : FL RX9 13 6 2 (.array (.object "RiddleRoad$Token")) true false := ⟨_, _, _, "RiddleRoad$Text", cl_6, by decide, rfl, rfl, (fun a _ => by cases a), Or.inl (at_gw 209 (by decide +kernel) rfl), Or.inl rfl⟩
theorem fl_X9_30_6 : FL RX9 30 6 6 (.int) false false := ⟨_, _, _, "RiddleRoad$Text", cl_6, by decide, rfl, rfl, (fun a _ => by cases a), Or.inl (at_gw 213 (by decide +kernel) rfl), Or.inl rfl⟩
theorem fl_X9_26_6 : FL RX9 26 6 5 (.int) false false := ⟨_, _, _, "RiddleRoad$Text", cl_6, by decide, rfl, rfl, (fun a _ => by cases a), Or.inl (at_gw 212 (by decide +kernel) rfl), Or.inl rfl⟩
theorem fl_X9_30_6w : FL RX9 30 6 6 (.int) false true := ⟨_, _, _, "RiddleRoad$Text", cl_6, by decide, rfl, rfl, (fun _ b => by cases b), Or.inl (at_gw 213 (by decide +kernel) rfl), Or.inl rfl⟩
theorem fl_X9_19_6 : FL RX9 19 6 3 (.array .int) true false := ⟨_, _, _, "RiddleRoad$Text", cl_6, by decide, rfl, rfl, (fun a _ => by cases a), Or.inl (at_gw 210 (by decide +kernel) rfl), Or.inl rfl⟩
theorem fl_X9_23_6 : FL RX9 23 6 4 (.array .int) true false := ⟨_, _, _, "RiddleRoad$Text", cl_6, by decide, rfl, rfl, (fun a _ => by cases a), Or.inl (at_gw 211 (by decide +kernel) rfl), Or.inl rfl⟩
theorem tk_X9_60 : Cond.fieldLink RX9 60 RX10 "NUMBER" "LRiddleRoad$Token;" ∈ gw := (at_gw 655 (by decide +kernel) rfl)
theorem fl_X9_40_6 : FL RX9 40 6 0 (.array .int) true false := ⟨_, _, _, "RiddleRoad$Text", cl_6, by decide, rfl, rfl, (fun a _ => by cases a), Or.inl (at_gw 207 (by decide +kernel) rfl), Or.inl rfl⟩
theorem fl_X4_33_3 : FL RX4 33 3 0 (.object "RiddleRoad$Text") true false := ⟨_, _, _, "RiddleRoad$LawReader", cl_3, by decide, rfl, rfl, (fun a _ => by cases a), Or.inl (at_gw 373 (by decide +kernel) rfl), Or.inr (at_gw 374 (by decide +kernel) rfl)⟩
theorem vl_X4_37 : VL RX4 37 RX9 yX9_token 0 := ⟨Or.inr ⟨"RiddleRoad", (at_nw 730 (by decide +kernel) rfl)⟩, (at_gw 721 (by decide +kernel) rfl), (at_gw 24 (by decide +kernel) rfl), (at_gw 143 (by decide +kernel) rfl), ⟨by decide +kernel, by decide +kernel, by decide +kernel⟩⟩
theorem tk_X4_111 : Cond.fieldLink RX4 111 RX10 "NUMBER" "LRiddleRoad$Token;" ∈ gw := (at_gw 779 (by decide +kernel) rfl)
theorem sl_X4_114 : SL RX4 114 yX3_isFact 1 := ⟨Or.inr ⟨"RiddleRoad", (at_nw 780 (by decide +kernel) rfl)⟩, (at_gw 781 (by decide +kernel) rfl), (at_gw 147 (by decide +kernel) rfl), ⟨by decide +kernel, by decide +kernel, by decide +kernel⟩⟩
theorem vl_X4_50 : VL RX4 50 RX9 yX9_advance 0 := ⟨Or.inr ⟨"RiddleRoad", (at_nw 735 (by decide +kernel) rfl)⟩, (at_gw 737 (by decide +kernel) rfl), (at_gw 25 (by decide +kernel) rfl), (at_gw 143 (by decide +kernel) rfl), ⟨by decide +kernel, by decide +kernel, by decide +kernel⟩⟩
theorem vl_X4_54 : VL RX4 54 RX9 yX9_number 2 := ⟨Or.inr ⟨"RiddleRoad", (at_nw 739 (by decide +kernel) rfl)⟩, (at_gw 741 (by decide +kernel) rfl), (at_gw 26 (by decide +kernel) rfl), (at_gw 143 (by decide +kernel) rfl), ⟨by decide +kernel, by decide +kernel, by decide +kernel⟩⟩
theorem vl_X4_68 : VL RX4 68 RX4 yX4_write 2 := ⟨Or.inl (at_gw 751 (by decide +kernel) rfl), (at_gw 753 (by decide +kernel) rfl), (at_gw 28 (by decide +kernel) rfl), (at_gw 151 (by decide +kernel) rfl), ⟨by decide +kernel, by decide +kernel, by decide +kernel⟩⟩
theorem tk_X4_117 : Cond.fieldLink RX4 117 RX10 "PLUS" "LRiddleRoad$Token;" ∈ gw := (at_gw 791 (by decide +kernel) rfl)
theorem vl_X4_61 : VL RX4 61 RX9 yX9_take 1 := ⟨Or.inr ⟨"RiddleRoad", (at_nw 745 (by decide +kernel) rfl)⟩, (at_gw 747 (by decide +kernel) rfl), (at_gw 27 (by decide +kernel) rfl), (at_gw 143 (by decide +kernel) rfl), ⟨by decide +kernel, by decide +kernel, by decide +kernel⟩⟩
theorem tk_X4_88 : Cond.fieldLink RX4 88 RX10 "OPEN" "LRiddleRoad$Token;" ∈ gw := (at_gw 765 (by decide +kernel) rfl)
theorem vl_X4_76 : VL RX4 76 RX4 yX4_readAtom 1 := ⟨Or.inl (at_gw 759 (by decide +kernel) rfl), (at_gw 761 (by decide +kernel) rfl), (at_gw 30 (by decide +kernel) rfl), (at_gw 151 (by decide +kernel) rfl), ⟨by decide +kernel, by decide +kernel, by decide +kernel⟩⟩
theorem vl_X4_72 : VL RX4 72 RX4 yX4_readCondition 1 := ⟨Or.inl (at_gw 755 (by decide +kernel) rfl), (at_gw 757 (by decide +kernel) rfl), (at_gw 29 (by decide +kernel) rfl), (at_gw 151 (by decide +kernel) rfl), ⟨by decide +kernel, by decide +kernel, by decide +kernel⟩⟩
theorem tk_X4_108 : Cond.fieldLink RX4 108 RX10 "CLOSE" "LRiddleRoad$Token;" ∈ gw := (at_gw 771 (by decide +kernel) rfl)
theorem tk_X4_85 : Cond.fieldLink RX4 85 RX10 "NOT" "LRiddleRoad$Token;" ∈ gw := (at_gw 763 (by decide +kernel) rfl)
theorem vl_X4_91 : VL RX4 91 RX4 yX4_readDeeper 2 := ⟨Or.inl (at_gw 767 (by decide +kernel) rfl), (at_gw 769 (by decide +kernel) rfl), (at_gw 31 (by decide +kernel) rfl), (at_gw 151 (by decide +kernel) rfl), ⟨by decide +kernel, by decide +kernel, by decide +kernel⟩⟩
theorem tk_X4_95 : Cond.fieldLink RX4 95 RX10 "MONDAY" "LRiddleRoad$Token;" ∈ gw := (at_gw 773 (by decide +kernel) rfl)
theorem vl_X4_98 : VL RX4 98 RX4 yX4_readSum 0 := ⟨Or.inl (at_gw 775 (by decide +kernel) rfl), (at_gw 777 (by decide +kernel) rfl), (at_gw 32 (by decide +kernel) rfl), (at_gw 151 (by decide +kernel) rfl), ⟨by decide +kernel, by decide +kernel, by decide +kernel⟩⟩
theorem tk_X4_102 : Cond.fieldLink RX4 102 RX10 "LESS" "LRiddleRoad$Token;" ∈ gw := (at_gw 793 (by decide +kernel) rfl)
theorem tk_X4_105 : Cond.fieldLink RX4 105 RX10 "MORE" "LRiddleRoad$Token;" ∈ gw := (at_gw 795 (by decide +kernel) rfl)
theorem tk_X4_79 : Cond.fieldLink RX4 79 RX10 "AND" "LRiddleRoad$Token;" ∈ gw := (at_gw 797 (by decide +kernel) rfl)
theorem tk_X4_82 : Cond.fieldLink RX4 82 RX10 "OR" "LRiddleRoad$Token;" ∈ gw := (at_gw 799 (by decide +kernel) rfl)
theorem tk_X4_43 : Cond.fieldLink RX4 43 RX10 "HARD" "LRiddleRoad$Token;" ∈ gw := (at_gw 731 (by decide +kernel) rfl)
theorem tk_X4_47 : Cond.fieldLink RX4 47 RX10 "NEVER" "LRiddleRoad$Token;" ∈ gw := (at_gw 733 (by decide +kernel) rfl)
theorem tk_X4_58 : Cond.fieldLink RX4 58 RX10 "IF" "LRiddleRoad$Token;" ∈ gw := (at_gw 743 (by decide +kernel) rfl)
theorem tk_X4_65 : Cond.fieldLink RX4 65 RX10 "ALWAYS" "LRiddleRoad$Token;" ∈ gw := (at_gw 749 (by decide +kernel) rfl)
theorem vl_X11_141 : VL RX11 141 RX11 yX11_knows 2 := ⟨Or.inl (at_gw 1152 (by decide +kernel) rfl), (at_gw 1049 (by decide +kernel) rfl), (at_gw 52 (by decide +kernel) rfl), (at_gw 146 (by decide +kernel) rfl), ⟨by decide +kernel, by decide +kernel, by decide +kernel⟩⟩
theorem vl_X11_148 : VL RX11 148 RX11 yX11_sells 2 := ⟨Or.inl (at_gw 1183 (by decide +kernel) rfl), (at_gw 1185 (by decide +kernel) rfl), (at_gw 68 (by decide +kernel) rfl), (at_gw 146 (by decide +kernel) rfl), ⟨by decide +kernel, by decide +kernel, by decide +kernel⟩⟩
theorem fl_X6_9_7 : FL RX6 9 7 4 (.int) false false := ⟨_, _, _, "RiddleRoad$World", cl_7, by decide, rfl, rfl, (fun a _ => by cases a), Or.inr ⟨"RiddleRoad", (at_nw 280 (by decide +kernel) rfl)⟩, Or.inl rfl⟩
theorem fl_X6_15_7 : FL RX6 15 7 5 (.array .int) true false := ⟨_, _, _, "RiddleRoad$World", cl_7, by decide, rfl, rfl, (fun a _ => by cases a), Or.inr ⟨"RiddleRoad", (at_nw 284 (by decide +kernel) rfl)⟩, Or.inl rfl⟩
theorem fl_X6_19_7 : FL RX6 19 7 0 (.int) false false := ⟨_, _, _, "RiddleRoad$World", cl_7, by decide, rfl, rfl, (fun a _ => by cases a), Or.inr ⟨"RiddleRoad", (at_nw 269 (by decide +kernel) rfl)⟩, Or.inl rfl⟩
theorem vl_X6_22 : VL RX6 22 RX11 yX11_isClosedTo 2 := ⟨Or.inr ⟨"RiddleRoad", (at_nw 1230 (by decide +kernel) rfl)⟩, (at_gw 1071 (by decide +kernel) rfl), (at_gw 54 (by decide +kernel) rfl), (at_gw 146 (by decide +kernel) rfl), ⟨by decide +kernel, by decide +kernel, by decide +kernel⟩⟩
theorem vl_X6_26 : VL RX6 26 RX11 yX11_asked 1 := ⟨Or.inr ⟨"RiddleRoad", (at_nw 545 (by decide +kernel) rfl)⟩, (at_gw 547 (by decide +kernel) rfl), (at_gw 7 (by decide +kernel) rfl), (at_gw 146 (by decide +kernel) rfl), ⟨by decide +kernel, by decide +kernel, by decide +kernel⟩⟩
theorem fl_X6_30_7 : FL RX6 30 7 2 (.array .int) true false := ⟨_, _, _, "RiddleRoad$World", cl_7, by decide, rfl, rfl, (fun a _ => by cases a), Or.inr ⟨"RiddleRoad", (at_nw 275 (by decide +kernel) rfl)⟩, Or.inl rfl⟩
theorem vl_X6_33 : VL RX6 33 RX11 yX11_together 1 := ⟨Or.inr ⟨"RiddleRoad", (at_nw 554 (by decide +kernel) rfl)⟩, (at_gw 522 (by decide +kernel) rfl), (at_gw 5 (by decide +kernel) rfl), (at_gw 146 (by decide +kernel) rfl), ⟨by decide +kernel, by decide +kernel, by decide +kernel⟩⟩
theorem vl_X6_36 : VL RX6 36 RX11 yX11_cheapestSeller 1 := ⟨Or.inr ⟨"RiddleRoad", (at_nw 1231 (by decide +kernel) rfl)⟩, (at_gw 1233 (by decide +kernel) rfl), (at_gw 72 (by decide +kernel) rfl), (at_gw 146 (by decide +kernel) rfl), ⟨by decide +kernel, by decide +kernel, by decide +kernel⟩⟩
theorem fl_X6_39_7 : FL RX6 39 7 11 (.array (.array .int)) true false := ⟨_, _, _, "RiddleRoad$World", cl_7, by decide, rfl, rfl, (fun a _ => by cases a), Or.inr ⟨"RiddleRoad", (at_nw 297 (by decide +kernel) rfl)⟩, Or.inl rfl⟩
theorem kl_X6_45 : Cond.constantLong RX6 45 (1000000000 : Int64) ∈ gw := (at_gw 1257 (by decide +kernel) rfl)
theorem kl_X6_47 : Cond.constantLong RX6 47 (1000 : Int64) ∈ gw := (at_gw 1258 (by decide +kernel) rfl)
theorem kl_X6_49 : Cond.constantLong RX6 49 (100 : Int64) ∈ gw := (at_gw 1259 (by decide +kernel) rfl)
theorem vl_X6_51 : VL RX6 51 RX11 yX11_allWalkers 0 := ⟨Or.inr ⟨"RiddleRoad", (at_nw 549 (by decide +kernel) rfl)⟩, (at_gw 551 (by decide +kernel) rfl), (at_gw 8 (by decide +kernel) rfl), (at_gw 146 (by decide +kernel) rfl), ⟨by decide +kernel, by decide +kernel, by decide +kernel⟩⟩
theorem sl_X6_55 : SL RX6 55 yJ6_bitCount_0f7a4 1 := ⟨Or.inl (at_gw 553 (by decide +kernel) rfl), (at_gw 525 (by decide +kernel) rfl), (at_gw 168 (by decide +kernel) rfl), ⟨by decide +kernel, by decide +kernel, by decide +kernel⟩⟩
theorem vl_X6_60 : VL RX6 60 RX11 yX11_sellersAt 1 := ⟨Or.inr ⟨"RiddleRoad", (at_nw 1323 (by decide +kernel) rfl)⟩, (at_gw 1325 (by decide +kernel) rfl), (at_gw 76 (by decide +kernel) rfl), (at_gw 146 (by decide +kernel) rfl), ⟨by decide +kernel, by decide +kernel, by decide +kernel⟩⟩
theorem fl_X5_7_4w : FL RX5 7 4 0 (.object "RiddleRoad$Text") true true := ⟨_, _, _, "RiddleRoad$LineReader", cl_4, by decide, rfl, rfl, (fun _ _ => rfl), Or.inl (at_gw 370 (by decide +kernel) rfl), Or.inl rfl⟩
theorem il_X7_3 : IL RX7 3 yX5_init 1 := ⟨Or.inl (at_gw 365 (by decide +kernel) rfl), (at_gw 366 (by decide +kernel) rfl), (at_gw 149 (by decide +kernel) rfl), ⟨by decide +kernel, by decide +kernel, by decide +kernel⟩, rfl⟩
theorem fl_X7_9_4w : FL RX7 9 4 1 (.object "RiddleRoad$World") true true := ⟨_, _, _, "RiddleRoad$RoadReader", cl_4, by decide, rfl, rfl, (fun _ _ => rfl), Or.inl (at_gw 369 (by decide +kernel) rfl), Or.inl rfl⟩
theorem nn_X7_9 : ∀ ref n ds host, Cond.fieldLinkNest RX7 9 ref n ds host ∉ nw := noNest (by decide +kernel)
theorem sm_X7_15 : Cond.fieldLink RX7 15 RX0 "$SwitchMap$RiddleRoad$Token" "[I" ∈ gw := (at_gw 804 (by decide +kernel) rfl)
theorem ul_X7_31_X10 : UL RX7 31 RX10 "java/lang/Enum" ⟨"RiddleRoad$Token", "ordinal", "()I"⟩ yJx29ce0_ordinal_8abf5 0 := ⟨(at_gw 806 (by decide +kernel) rfl), (at_gw 786 (by decide +kernel) rfl), (at_gw 788 (by decide +kernel) rfl), (at_gw 789 (by decide +kernel) rfl), (at_gw 144 (by decide +kernel) rfl), ⟨by decide +kernel, by decide +kernel, by decide +kernel⟩, Or.inr ⟨cJx29ce0_ordinal_8abf5, 1, some .int, (at_gw 789 (by decide +kernel) rfl), (at_gw 790 (by decide +kernel) rfl)⟩⟩
theorem fl_X7_21_4 : FL RX7 21 4 0 (.object "RiddleRoad$Text") true false := ⟨_, _, _, "RiddleRoad$RoadReader", cl_4, by decide, rfl, rfl, (fun a _ => by cases a), Or.inl (at_gw 371 (by decide +kernel) rfl), Or.inr (at_gw 372 (by decide +kernel) rfl)⟩
theorem fl_X7_9_4 : FL RX7 9 4 1 (.object "RiddleRoad$World") true false := ⟨_, _, _, "RiddleRoad$RoadReader", cl_4, by decide, rfl, rfl, (fun a _ => by cases a), Or.inl (at_gw 369 (by decide +kernel) rfl), Or.inl rfl⟩
theorem fl_X7_59_7 : FL RX7 59 7 0 (.int) false false := ⟨_, _, _, "RiddleRoad$World", cl_7, by decide, rfl, rfl, (fun a _ => by cases a), Or.inr ⟨"RiddleRoad", (at_nw 270 (by decide +kernel) rfl)⟩, Or.inl rfl⟩
theorem vl_X7_65 : VL RX7 65 RX9 yX9_number 2 := ⟨Or.inr ⟨"RiddleRoad", (at_nw 812 (by decide +kernel) rfl)⟩, (at_gw 741 (by decide +kernel) rfl), (at_gw 26 (by decide +kernel) rfl), (at_gw 143 (by decide +kernel) rfl), ⟨by decide +kernel, by decide +kernel, by decide +kernel⟩⟩
theorem vl_X7_81 : VL RX7 81 RX9 yX9_advance 0 := ⟨Or.inr ⟨"RiddleRoad", (at_nw 811 (by decide +kernel) rfl)⟩, (at_gw 737 (by decide +kernel) rfl), (at_gw 25 (by decide +kernel) rfl), (at_gw 143 (by decide +kernel) rfl), ⟨by decide +kernel, by decide +kernel, by decide +kernel⟩⟩
theorem vl_X7_25 : VL RX7 25 RX9 yX9_token 0 := ⟨Or.inr ⟨"RiddleRoad", (at_nw 805 (by decide +kernel) rfl)⟩, (at_gw 721 (by decide +kernel) rfl), (at_gw 24 (by decide +kernel) rfl), (at_gw 143 (by decide +kernel) rfl), ⟨by decide +kernel, by decide +kernel, by decide +kernel⟩⟩
theorem sl_X7_85 : SL RX7 85 yX7_kindOf 1 := ⟨Or.inl (at_gw 813 (by decide +kernel) rfl), (at_gw 814 (by decide +kernel) rfl), (at_gw 150 (by decide +kernel) rfl), ⟨by decide +kernel, by decide +kernel, by decide +kernel⟩⟩
theorem vl_X7_74 : VL RX7 74 RX7 yX7_readOneGate 0 := ⟨Or.inl (at_gw 816 (by decide +kernel) rfl), (at_gw 818 (by decide +kernel) rfl), (at_gw 34 (by decide +kernel) rfl), (at_gw 150 (by decide +kernel) rfl), ⟨by decide +kernel, by decide +kernel, by decide +kernel⟩⟩
theorem vl_X7_89 : VL RX7 89 RX11 yX11_addGate 3 := ⟨Or.inr ⟨"RiddleRoad", (at_nw 820 (by decide +kernel) rfl)⟩, (at_gw 822 (by decide +kernel) rfl), (at_gw 35 (by decide +kernel) rfl), (at_gw 146 (by decide +kernel) rfl), ⟨by decide +kernel, by decide +kernel, by decide +kernel⟩⟩
theorem tk_X7_77 : Cond.fieldLink RX7 77 RX10 "NUMBER" "LRiddleRoad$Token;" ∈ gw := (at_gw 835 (by decide +kernel) rfl)
theorem vl_X11_89 : VL RX11 89 RX11 yX11_learn 3 := ⟨Or.inl (at_gw 530 (by decide +kernel) rfl), (at_gw 532 (by decide +kernel) rfl), (at_gw 6 (by decide +kernel) rfl), (at_gw 146 (by decide +kernel) rfl), ⟨by decide +kernel, by decide +kernel, by decide +kernel⟩⟩
theorem fl_X7_69_7 : FL RX7 69 7 4 (.int) false false := ⟨_, _, _, "RiddleRoad$World", cl_7, by decide, rfl, rfl, (fun a _ => by cases a), Or.inr ⟨"RiddleRoad", (at_nw 281 (by decide +kernel) rfl)⟩, Or.inl rfl⟩
theorem tk_X7_93 : Cond.fieldLink RX7 93 RX10 "KNOWS" "LRiddleRoad$Token;" ∈ gw := (at_gw 828 (by decide +kernel) rfl)
theorem vl_X7_96 : VL RX7 96 RX9 yX9_take 1 := ⟨Or.inr ⟨"RiddleRoad", (at_nw 830 (by decide +kernel) rfl)⟩, (at_gw 747 (by decide +kernel) rfl), (at_gw 27 (by decide +kernel) rfl), (at_gw 143 (by decide +kernel) rfl), ⟨by decide +kernel, by decide +kernel, by decide +kernel⟩⟩
theorem vl_X7_100 : VL RX7 100 RX7 yX7_readSomeGates 0 := ⟨Or.inl (at_gw 831 (by decide +kernel) rfl), (at_gw 833 (by decide +kernel) rfl), (at_gw 37 (by decide +kernel) rfl), (at_gw 150 (by decide +kernel) rfl), ⟨by decide +kernel, by decide +kernel, by decide +kernel⟩⟩
theorem vl_X7_103 : VL RX7 103 RX11 yX11_addWalker 3 := ⟨Or.inr ⟨"RiddleRoad", (at_nw 836 (by decide +kernel) rfl)⟩, (at_gw 838 (by decide +kernel) rfl), (at_gw 38 (by decide +kernel) rfl), (at_gw 146 (by decide +kernel) rfl), ⟨by decide +kernel, by decide +kernel, by decide +kernel⟩⟩
theorem vl_X7_106 : VL RX7 106 RX7 yX7_readOneWalker 0 := ⟨Or.inl (at_gw 844 (by decide +kernel) rfl), (at_gw 846 (by decide +kernel) rfl), (at_gw 40 (by decide +kernel) rfl), (at_gw 150 (by decide +kernel) rfl), ⟨by decide +kernel, by decide +kernel, by decide +kernel⟩⟩
theorem fl_X7_109_7 : FL RX7 109 7 11 (.array (.array .int)) true false := ⟨_, _, _, "RiddleRoad$World", cl_7, by decide, rfl, rfl, (fun a _ => by cases a), Or.inr ⟨"RiddleRoad", (at_nw 298 (by decide +kernel) rfl)⟩, Or.inl rfl⟩
theorem fl_X7_113_7w : FL RX7 113 7 14 (.int) false true := ⟨_, _, _, "RiddleRoad$World", cl_7, by decide, rfl, rfl, (fun _ b => by cases b), Or.inr ⟨"RiddleRoad", (at_nw 306 (by decide +kernel) rfl)⟩, Or.inl rfl⟩
theorem fl_X7_116_7w : FL RX7 116 7 15 (.int) false true := ⟨_, _, _, "RiddleRoad$World", cl_7, by decide, rfl, rfl, (fun _ b => by cases b), Or.inr ⟨"RiddleRoad", (at_nw 310 (by decide +kernel) rfl)⟩, Or.inl rfl⟩
theorem fl_X7_119_7 : FL RX7 119 7 12 (.int) false false := ⟨_, _, _, "RiddleRoad$World", cl_7, by decide, rfl, rfl, (fun a _ => by cases a), Or.inr ⟨"RiddleRoad", (at_nw 302 (by decide +kernel) rfl)⟩, Or.inl rfl⟩
theorem fl_X7_119_7w : FL RX7 119 7 12 (.int) false true := ⟨_, _, _, "RiddleRoad$World", cl_7, by decide, rfl, rfl, (fun _ b => by cases b), Or.inr ⟨"RiddleRoad", (at_nw 302 (by decide +kernel) rfl)⟩, Or.inl rfl⟩
theorem vl_X7_37 : VL RX7 37 RX7 yX7_readGate 0 := ⟨Or.inl (at_gw 807 (by decide +kernel) rfl), (at_gw 809 (by decide +kernel) rfl), (at_gw 33 (by decide +kernel) rfl), (at_gw 150 (by decide +kernel) rfl), ⟨by decide +kernel, by decide +kernel, by decide +kernel⟩⟩
theorem vl_X7_41 : VL RX7 41 RX7 yX7_readWalker 0 := ⟨Or.inl (at_gw 824 (by decide +kernel) rfl), (at_gw 826 (by decide +kernel) rfl), (at_gw 36 (by decide +kernel) rfl), (at_gw 150 (by decide +kernel) rfl), ⟨by decide +kernel, by decide +kernel, by decide +kernel⟩⟩
theorem vl_X7_44 : VL RX7 44 RX7 yX7_readPrice 0 := ⟨Or.inl (at_gw 840 (by decide +kernel) rfl), (at_gw 842 (by decide +kernel) rfl), (at_gw 39 (by decide +kernel) rfl), (at_gw 150 (by decide +kernel) rfl), ⟨by decide +kernel, by decide +kernel, by decide +kernel⟩⟩
theorem vl_X7_47 : VL RX7 47 RX7 yX7_readWear 0 := ⟨Or.inl (at_gw 848 (by decide +kernel) rfl), (at_gw 850 (by decide +kernel) rfl), (at_gw 41 (by decide +kernel) rfl), (at_gw 150 (by decide +kernel) rfl), ⟨by decide +kernel, by decide +kernel, by decide +kernel⟩⟩
theorem vl_X7_50 : VL RX7 50 RX7 yX7_readChange 0 := ⟨Or.inl (at_gw 852 (by decide +kernel) rfl), (at_gw 854 (by decide +kernel) rfl), (at_gw 42 (by decide +kernel) rfl), (at_gw 150 (by decide +kernel) rfl), ⟨by decide +kernel, by decide +kernel, by decide +kernel⟩⟩
theorem vl_X7_53 : VL RX7 53 RX7 yX7_readStill 0 := ⟨Or.inl (at_gw 856 (by decide +kernel) rfl), (at_gw 858 (by decide +kernel) rfl), (at_gw 43 (by decide +kernel) rfl), (at_gw 150 (by decide +kernel) rfl), ⟨by decide +kernel, by decide +kernel, by decide +kernel⟩⟩
theorem vl_X7_56 : VL RX7 56 RX7 yX7_readLiar 0 := ⟨Or.inl (at_gw 860 (by decide +kernel) rfl), (at_gw 862 (by decide +kernel) rfl), (at_gw 44 (by decide +kernel) rfl), (at_gw 150 (by decide +kernel) rfl), ⟨by decide +kernel, by decide +kernel, by decide +kernel⟩⟩
theorem oi_X8_1 : Cond.methodLink RX8 1 Lib.objectInit ∈ gw := (at_gw 184 (by decide +kernel) rfl)
theorem fl_X8_9_5w : FL RX8 9 5 0 (.array .int) true true := ⟨_, _, _, "RiddleRoad$Tape", cl_5, by decide, rfl, rfl, (fun _ _ => rfl), Or.inl (at_gw 185 (by decide +kernel) rfl), Or.inl rfl⟩
theorem nn_X8_9 : ∀ ref n ds host, Cond.fieldLinkNest RX8 9 ref n ds host ∉ nw := noNest (by decide +kernel)
theorem fl_X8_13_5w : FL RX8 13 5 1 (.int) false true := ⟨_, _, _, "RiddleRoad$Tape", cl_5, by decide, rfl, rfl, (fun _ b => by cases b), Or.inl (at_gw 188 (by decide +kernel) rfl), Or.inl rfl⟩
theorem fl_X8_13_5 : FL RX8 13 5 1 (.int) false false := ⟨_, _, _, "RiddleRoad$Tape", cl_5, by decide, rfl, rfl, (fun a _ => by cases a), Or.inl (at_gw 188 (by decide +kernel) rfl), Or.inl rfl⟩
theorem fl_X8_9_5 : FL RX8 9 5 0 (.array .int) true false := ⟨_, _, _, "RiddleRoad$Tape", cl_5, by decide, rfl, rfl, (fun a _ => by cases a), Or.inl (at_gw 185 (by decide +kernel) rfl), Or.inl rfl⟩
theorem sl_X8_17 : SL RX8 17 yX9_isLetter 1 := ⟨Or.inr ⟨"RiddleRoad", (at_nw 1281 (by decide +kernel) rfl)⟩, (at_gw 649 (by decide +kernel) rfl), (at_gw 143 (by decide +kernel) rfl), ⟨by decide +kernel, by decide +kernel, by decide +kernel⟩⟩
theorem oi_X9_3 : Cond.methodLink RX9 3 Lib.objectInit ∈ gw := (at_gw 202 (by decide +kernel) rfl)
theorem cn_X9_11 : Cond.classLink RX9 11 RX10 ∈ gw := (at_gw 203 (by decide +kernel) rfl)
theorem fl_X9_13_6w : FL RX9 13 6 2 (.array (.object "RiddleRoad$Token")) true true := ⟨_, _, _, "RiddleRoad$Text", cl_6, by decide, rfl, rfl, (fun _ _ => rfl), Or.inl (at_gw 209 (by decide +kernel) rfl), Or.inl rfl⟩
theorem nn_X9_13 : ∀ ref n ds host, Cond.fieldLinkNest RX9 13 ref n ds host ∉ nw := noNest (by decide +kernel)
theorem fl_X9_19_6w : FL RX9 19 6 3 (.array .int) true true := ⟨_, _, _, "RiddleRoad$Text", cl_6, by decide, rfl, rfl, (fun _ _ => rfl), Or.inl (at_gw 210 (by decide +kernel) rfl), Or.inl rfl⟩
theorem nn_X9_19 : ∀ ref n ds host, Cond.fieldLinkNest RX9 19 ref n ds host ∉ nw := noNest (by decide +kernel)
theorem fl_X9_23_6w : FL RX9 23 6 4 (.array .int) true true := ⟨_, _, _, "RiddleRoad$Text", cl_6, by decide, rfl, rfl, (fun _ _ => rfl), Or.inl (at_gw 211 (by decide +kernel) rfl), Or.inl rfl⟩
theorem nn_X9_23 : ∀ ref n ds host, Cond.fieldLinkNest RX9 23 ref n ds host ∉ nw := noNest (by decide +kernel)
theorem fl_X9_26_6w : FL RX9 26 6 5 (.int) false true := ⟨_, _, _, "RiddleRoad$Text", cl_6, by decide, rfl, rfl, (fun _ b => by cases b), Or.inl (at_gw 212 (by decide +kernel) rfl), Or.inl rfl⟩
theorem fl_X9_33_6w : FL RX9 33 6 1 (.object "RiddleRoad$Tape") true true := ⟨_, _, _, "RiddleRoad$Text", cl_6, by decide, rfl, rfl, (fun _ _ => rfl), Or.inl (at_gw 208 (by decide +kernel) rfl), Or.inl rfl⟩
theorem nn_X9_33 : ∀ ref n ds host, Cond.fieldLinkNest RX9 33 ref n ds host ∉ nw := noNest (by decide +kernel)
theorem fl_X9_37_5 : FL RX9 37 5 0 (.array .int) true false := ⟨_, _, _, "RiddleRoad$Tape", cl_5, by decide, rfl, rfl, (fun a _ => by cases a), Or.inr ⟨"RiddleRoad", (at_nw 186 (by decide +kernel) rfl)⟩, Or.inl rfl⟩
theorem fl_X9_40_6w : FL RX9 40 6 0 (.array .int) true true := ⟨_, _, _, "RiddleRoad$Text", cl_6, by decide, rfl, rfl, (fun _ _ => rfl), Or.inl (at_gw 207 (by decide +kernel) rfl), Or.inl rfl⟩
theorem nn_X9_40 : ∀ ref n ds host, Cond.fieldLinkNest RX9 40 ref n ds host ∉ nw := noNest (by decide +kernel)
theorem tk_X9_41 : Cond.fieldLink RX9 41 RX10 "END" "LRiddleRoad$Token;" ∈ gw := (at_gw 205 (by decide +kernel) rfl)
theorem sl_X9_45 : SL RX9 45 yX9_isLetter 1 := ⟨Or.inl (at_gw 648 (by decide +kernel) rfl), (at_gw 649 (by decide +kernel) rfl), (at_gw 143 (by decide +kernel) rfl), ⟨by decide +kernel, by decide +kernel, by decide +kernel⟩⟩
theorem vl_X9_77 : VL RX9 77 RJ0 yJ0_length_8abf5 0 := ⟨Or.inl (at_gw 663 (by decide +kernel) rfl), (at_gw 664 (by decide +kernel) rfl), (at_gw 665 (by decide +kernel) rfl), (at_gw 155 (by decide +kernel) rfl), ⟨by decide +kernel, by decide +kernel, by decide +kernel⟩⟩
theorem vl_X9_82 : VL RX9 82 RJ0 yJ0_charAt_5068e 1 := ⟨Or.inl (at_gw 673 (by decide +kernel) rfl), (at_gw 674 (by decide +kernel) rfl), (at_gw 675 (by decide +kernel) rfl), (at_gw 155 (by decide +kernel) rfl), ⟨by decide +kernel, by decide +kernel, by decide +kernel⟩⟩
theorem sl_X9_52 : SL RX9 52 yX9_sortOf 1 := ⟨Or.inl (at_gw 645 (by decide +kernel) rfl), (at_gw 646 (by decide +kernel) rfl), (at_gw 143 (by decide +kernel) rfl), ⟨by decide +kernel, by decide +kernel, by decide +kernel⟩⟩
