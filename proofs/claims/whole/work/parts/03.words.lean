/-! the words of the tables that calls hand on (allw), the nest words (nestw), and each word's place -/
def sr_isN : Cond → Bool
  | .fieldLinkNest .. => true
  | .methodLinkNest .. => true
  | _ => false
abbrev sr_d (y : MethodName) (n : Nat) : Prop := y.cls ≠ "java/lang/invoke/MethodHandle" ∧ y.cls ≠ "java/lang/invoke/VarHandle" ∧ (parseMethodDescriptor y.desc).map (fun d => d.parameters.length) = some n
def allw : List Cond := lw_tbl.filter goodWord
def nestw : List Cond := [(Cond.methodLinkNest "StrokeRaster" (9 : Nat) ({ cls := "StrokeRaster$Path", name := "<init>", desc := "()V" } : Jvm.MethodName) "StrokeRaster"), (Cond.methodLinkNest "StrokeRaster" (18 : Nat) ({ cls := "StrokeRaster$Pen", name := "<init>", desc := "()V" } : Jvm.MethodName) "StrokeRaster"), (Cond.methodLinkNest "StrokeRaster" (25 : Nat) ({ cls := "StrokeRaster$Pieces", name := "<init>", desc := "()V" } : Jvm.MethodName) "StrokeRaster"), (Cond.methodLinkNest "StrokeRaster" (41 : Nat) ({ cls := "StrokeRaster$Grid", name := "<init>", desc := "()V" } : Jvm.MethodName) "StrokeRaster"), (Cond.methodLinkNest "StrokeRaster$Walker" (161 : Nat) ({ cls := "StrokeRaster", name := "root", desc := "(J)J" } : Jvm.MethodName) "StrokeRaster"), (Cond.methodLinkNest "StrokeRaster$Grid" (117 : Nat) ({ cls := "StrokeRaster", name := "root", desc := "(J)J" } : Jvm.MethodName) "StrokeRaster")]
theorem hns_ok : ∀ w ∈ nestw, sr_isN w = true := by decide +kernel
theorem allw_good : ∀ w ∈ allw, goodWord w = true := fun w h => (List.mem_filter.mp h).2
theorem allw_tbl : ∀ w ∈ allw, w ∈ lw_tbl := fun w h => (List.mem_filter.mp h).1
theorem kw_1 {w : Cond} {k : Nat} (h : tables_1_1[k]? = some w) (g : goodWord w = true) : w ∈ allw := List.mem_filter.mpr ⟨List.mem_append_right _ (List.mem_append_left _ (List.mem_of_getElem? h)), g⟩
theorem kw_2 {w : Cond} {k : Nat} (h : tables_1_2[k]? = some w) (g : goodWord w = true) : w ∈ allw := List.mem_filter.mpr ⟨List.mem_append_right _ (List.mem_append_right _ (List.mem_append_left _ (List.mem_of_getElem? h))), g⟩
theorem kw_3 {w : Cond} {k : Nat} (h : tables_1_3[k]? = some w) (g : goodWord w = true) : w ∈ allw := List.mem_filter.mpr ⟨List.mem_append_right _ (List.mem_append_right _ (List.mem_append_right _ (List.mem_append_left _ (List.mem_of_getElem? h)))), g⟩
theorem kw_4 {w : Cond} {k : Nat} (h : tables_1_4[k]? = some w) (g : goodWord w = true) : w ∈ allw := List.mem_filter.mpr ⟨List.mem_append_right _ (List.mem_append_right _ (List.mem_append_right _ (List.mem_append_right _ (List.mem_append_left _ (List.mem_of_getElem? h))))), g⟩
theorem kw_5 {w : Cond} {k : Nat} (h : tables_1_5[k]? = some w) (g : goodWord w = true) : w ∈ allw := List.mem_filter.mpr ⟨List.mem_append_right _ (List.mem_append_right _ (List.mem_append_right _ (List.mem_append_right _ (List.mem_append_right _ (List.mem_of_getElem? h))))), g⟩
theorem kw_s {q : MethodName × Nat} {k : Nat} (h : lw_privs[k]? = some q) : Cond.selects q.1.cls q.1 q.1 ∈ allw := List.mem_filter.mpr ⟨List.mem_append_left _ (List.mem_map.mpr ⟨q, List.mem_of_getElem? h, rfl⟩), rfl⟩
theorem k_in_La : Cond.initialized R_La ∈ allw := kw_1 (k := 0) rfl rfl
theorem k_in_SR : Cond.initialized R_SR ∈ allw := kw_1 (k := 1) rfl rfl
theorem k_in_Path : Cond.initialized R_Path ∈ allw := kw_1 (k := 2) rfl rfl
theorem k_in_Pen : Cond.initialized R_Pen ∈ allw := kw_1 (k := 3) rfl rfl
theorem k_in_Pieces : Cond.initialized R_Pieces ∈ allw := kw_1 (k := 4) rfl rfl
theorem k_in_Walker : Cond.initialized R_Walker ∈ allw := kw_1 (k := 5) rfl rfl
theorem k_in_Grid : Cond.initialized R_Grid ∈ allw := kw_1 (k := 6) rfl rfl
theorem k_in_Painter : Cond.initialized R_Painter ∈ allw := kw_1 (k := 7) rfl rfl
theorem k_in_Mo : Cond.initialized R_Mo ∈ allw := kw_1 (k := 8) rfl rfl
theorem k_in_Math : Cond.initialized R_Math ∈ allw := kw_1 (k := 14) rfl rfl
theorem k_in_Arr : Cond.initialized R_Arr ∈ allw := kw_1 (k := 15) rfl rfl
theorem k_in_Sys : Cond.initialized R_Sys ∈ allw := kw_1 (k := 16) rfl rfl
theorem k_in_Long : Cond.initialized R_Long ∈ allw := kw_1 (k := 17) rfl rfl
theorem k_c_La_8 : Cond.classLink R_La 8 "StrokeRaster" ∈ allw := kw_1 (k := 19) rfl rfl
theorem k_ib_SR : Cond.instantiable R_SR 12 ∈ allw := kw_1 (k := 20) rfl rfl
theorem k_m_La_54 : Cond.methodLink R_La 54 y_SR_init ∈ allw := kw_1 (k := 21) rfl rfl
theorem k_im_SR_init : Cond.instanceMethod y_SR_init ∈ allw := kw_1 (k := 22) rfl rfl
theorem k_cd_SR_init : Cond.code y_SR_init b_SR_init 1 none ∈ allw := kw_1 (k := 23) rfl rfl
theorem k_m_SR_1 : Cond.methodLink R_SR 1 objectInit ∈ allw := kw_1 (k := 24) rfl rfl
theorem k_im_obj : Cond.instanceMethod objectInit ∈ allw := kw_1 (k := 25) rfl rfl
theorem k_cd_obj : Cond.code objectInit ⟨#[0xb1]⟩ 1 none ∈ allw := kw_1 (k := 26) rfl rfl
theorem k_c_SR_7 : Cond.classLink R_SR 7 "StrokeRaster$Path" ∈ allw := kw_1 (k := 27) rfl rfl
theorem k_ib_Path : Cond.instantiable R_Path 7 ∈ allw := kw_1 (k := 28) rfl rfl
theorem k_im_Path_init : Cond.instanceMethod y_Path_init ∈ allw := kw_1 (k := 30) rfl rfl
theorem k_cd_Path_init : Cond.code y_Path_init b_Path_init 1 none ∈ allw := kw_1 (k := 31) rfl rfl
theorem k_m_Path_3 : Cond.methodLink R_Path 3 objectInit ∈ allw := kw_1 (k := 32) rfl rfl
theorem k_f_Path_9 : Cond.fieldLink R_Path 9 "StrokeRaster$Path" "xs" "[I" ∈ allw := kw_1 (k := 33) rfl rfl
theorem k_f_Walker_122 : Cond.fieldLink R_Walker 122 "StrokeRaster$Path" "xs" "[I" ∈ allw := kw_1 (k := 34) rfl rfl
theorem k_f_Path_15 : Cond.fieldLink R_Path 15 "StrokeRaster$Path" "ys" "[I" ∈ allw := kw_1 (k := 35) rfl rfl
theorem k_f_Walker_125 : Cond.fieldLink R_Walker 125 "StrokeRaster$Path" "ys" "[I" ∈ allw := kw_1 (k := 36) rfl rfl
theorem k_f_Path_29 : Cond.fieldLink R_Path 29 "StrokeRaster$Path" "points" "I" ∈ allw := kw_1 (k := 37) rfl rfl
theorem k_f_SR_74 : Cond.fieldLink R_SR 74 "StrokeRaster$Path" "points" "I" ∈ allw := kw_1 (k := 38) rfl rfl
theorem k_f_Path_18 : Cond.fieldLink R_Path 18 "StrokeRaster$Path" "firsts" "[I" ∈ allw := kw_1 (k := 39) rfl rfl
theorem k_f_Walker_82 : Cond.fieldLink R_Walker 82 "StrokeRaster$Path" "firsts" "[I" ∈ allw := kw_1 (k := 40) rfl rfl
theorem k_f_Path_21 : Cond.fieldLink R_Path 21 "StrokeRaster$Path" "shut" "[Z" ∈ allw := kw_1 (k := 41) rfl rfl
theorem k_f_Walker_88 : Cond.fieldLink R_Walker 88 "StrokeRaster$Path" "shut" "[Z" ∈ allw := kw_1 (k := 42) rfl rfl
theorem k_f_Path_25 : Cond.fieldLink R_Path 25 "StrokeRaster$Path" "subpaths" "I" ∈ allw := kw_1 (k := 43) rfl rfl
theorem k_f_SR_70 : Cond.fieldLink R_SR 70 "StrokeRaster$Path" "subpaths" "I" ∈ allw := kw_1 (k := 44) rfl rfl
theorem k_f_Walker_35 : Cond.fieldLink R_Walker 35 "StrokeRaster$Path" "subpaths" "I" ∈ allw := kw_1 (k := 45) rfl rfl
theorem k_f_SR_122 : Cond.fieldLink R_SR 122 "StrokeRaster$Path" "shutOnes" "I" ∈ allw := kw_1 (k := 46) rfl rfl
theorem k_f_Path_59 : Cond.fieldLink R_Path 59 "StrokeRaster$Path" "shutOnes" "I" ∈ allw := kw_1 (k := 47) rfl rfl
theorem k_ac_int : Cond.arrayClass (newarray.typeOf .int) ∈ allw := kw_1 (k := 63) rfl rfl
theorem k_ac_boolean : Cond.arrayClass (newarray.typeOf .boolean) ∈ allw := kw_1 (k := 64) rfl rfl
theorem k_c_SR_16 : Cond.classLink R_SR 16 "StrokeRaster$Pen" ∈ allw := kw_1 (k := 65) rfl rfl
theorem k_ib_Pen : Cond.instantiable R_Pen 8 ∈ allw := kw_1 (k := 66) rfl rfl
theorem k_im_Pen_init : Cond.instanceMethod y_Pen_init ∈ allw := kw_1 (k := 68) rfl rfl
theorem k_cd_Pen_init : Cond.code y_Pen_init b_Pen_init 1 none ∈ allw := kw_1 (k := 69) rfl rfl
theorem k_m_Pen_3 : Cond.methodLink R_Pen 3 objectInit ∈ allw := kw_1 (k := 70) rfl rfl
theorem k_f_Pen_9 : Cond.fieldLink R_Pen 9 "StrokeRaster$Pen" "half" "I" ∈ allw := kw_1 (k := 71) rfl rfl
theorem k_f_Painter_57 : Cond.fieldLink R_Painter 57 "StrokeRaster$Pen" "half" "I" ∈ allw := kw_1 (k := 72) rfl rfl
theorem k_f_Walker_167 : Cond.fieldLink R_Walker 167 "StrokeRaster$Pen" "half" "I" ∈ allw := kw_1 (k := 73) rfl rfl
theorem k_f_Pen_22 : Cond.fieldLink R_Pen 22 "StrokeRaster$Pen" "caps" "I" ∈ allw := kw_1 (k := 74) rfl rfl
theorem k_f_Painter_113 : Cond.fieldLink R_Painter 113 "StrokeRaster$Pen" "caps" "I" ∈ allw := kw_1 (k := 75) rfl rfl
theorem k_f_Pen_25 : Cond.fieldLink R_Pen 25 "StrokeRaster$Pen" "joins" "I" ∈ allw := kw_1 (k := 76) rfl rfl
theorem k_f_Painter_49 : Cond.fieldLink R_Painter 49 "StrokeRaster$Pen" "joins" "I" ∈ allw := kw_1 (k := 77) rfl rfl
theorem k_f_Pen_15 : Cond.fieldLink R_Pen 15 "StrokeRaster$Pen" "limit" "I" ∈ allw := kw_1 (k := 78) rfl rfl
theorem k_f_Painter_131 : Cond.fieldLink R_Painter 131 "StrokeRaster$Pen" "limit" "I" ∈ allw := kw_1 (k := 79) rfl rfl
theorem k_f_Pen_18 : Cond.fieldLink R_Pen 18 "StrokeRaster$Pen" "lengths" "[I" ∈ allw := kw_1 (k := 80) rfl rfl
theorem k_f_Walker_68 : Cond.fieldLink R_Walker 68 "StrokeRaster$Pen" "lengths" "[I" ∈ allw := kw_1 (k := 81) rfl rfl
theorem k_f_Pen_28 : Cond.fieldLink R_Pen 28 "StrokeRaster$Pen" "dashes" "I" ∈ allw := kw_1 (k := 82) rfl rfl
theorem k_f_Walker_79 : Cond.fieldLink R_Walker 79 "StrokeRaster$Pen" "dashes" "I" ∈ allw := kw_1 (k := 83) rfl rfl
theorem k_f_SR_136 : Cond.fieldLink R_SR 136 "StrokeRaster$Pen" "dashes" "I" ∈ allw := kw_1 (k := 84) rfl rfl
theorem k_f_Pen_34 : Cond.fieldLink R_Pen 34 "StrokeRaster$Pen" "phase" "I" ∈ allw := kw_1 (k := 85) rfl rfl
theorem k_f_Walker_59 : Cond.fieldLink R_Walker 59 "StrokeRaster$Pen" "phase" "I" ∈ allw := kw_1 (k := 86) rfl rfl
theorem k_f_Pen_31 : Cond.fieldLink R_Pen 31 "StrokeRaster$Pen" "wholeLength" "I" ∈ allw := kw_1 (k := 87) rfl rfl
theorem k_f_Walker_54 : Cond.fieldLink R_Walker 54 "StrokeRaster$Pen" "wholeLength" "I" ∈ allw := kw_1 (k := 88) rfl rfl
theorem k_c_SR_23 : Cond.classLink R_SR 23 "StrokeRaster$Pieces" ∈ allw := kw_1 (k := 106) rfl rfl
theorem k_ib_Pieces : Cond.instantiable R_Pieces 11 ∈ allw := kw_1 (k := 107) rfl rfl
theorem k_im_Pieces_init : Cond.instanceMethod y_Pieces_init ∈ allw := kw_1 (k := 109) rfl rfl
theorem k_cd_Pieces_init : Cond.code y_Pieces_init b_Pieces_init 1 none ∈ allw := kw_1 (k := 110) rfl rfl
theorem k_m_Pieces_3 : Cond.methodLink R_Pieces 3 objectInit ∈ allw := kw_1 (k := 111) rfl rfl
theorem k_f_Pieces_9 : Cond.fieldLink R_Pieces 9 "StrokeRaster$Pieces" "ax" "[I" ∈ allw := kw_1 (k := 112) rfl rfl
theorem k_f_Painter_60 : Cond.fieldLink R_Painter 60 "StrokeRaster$Pieces" "ax" "[I" ∈ allw := kw_1 (k := 113) rfl rfl
theorem k_f_Pieces_15 : Cond.fieldLink R_Pieces 15 "StrokeRaster$Pieces" "ay" "[I" ∈ allw := kw_1 (k := 114) rfl rfl
theorem k_f_Painter_76 : Cond.fieldLink R_Painter 76 "StrokeRaster$Pieces" "ay" "[I" ∈ allw := kw_1 (k := 115) rfl rfl
theorem k_f_Pieces_18 : Cond.fieldLink R_Pieces 18 "StrokeRaster$Pieces" "bx" "[I" ∈ allw := kw_1 (k := 116) rfl rfl
theorem k_f_Painter_64 : Cond.fieldLink R_Painter 64 "StrokeRaster$Pieces" "bx" "[I" ∈ allw := kw_1 (k := 117) rfl rfl
theorem k_f_Pieces_21 : Cond.fieldLink R_Pieces 21 "StrokeRaster$Pieces" "by" "[I" ∈ allw := kw_1 (k := 118) rfl rfl
theorem k_f_Painter_79 : Cond.fieldLink R_Painter 79 "StrokeRaster$Pieces" "by" "[I" ∈ allw := kw_1 (k := 119) rfl rfl
theorem k_f_Pieces_24 : Cond.fieldLink R_Pieces 24 "StrokeRaster$Pieces" "ox" "[I" ∈ allw := kw_1 (k := 120) rfl rfl
theorem k_f_Painter_86 : Cond.fieldLink R_Painter 86 "StrokeRaster$Pieces" "ox" "[I" ∈ allw := kw_1 (k := 121) rfl rfl
theorem k_f_Pieces_27 : Cond.fieldLink R_Pieces 27 "StrokeRaster$Pieces" "oy" "[I" ∈ allw := kw_1 (k := 122) rfl rfl
theorem k_f_Painter_89 : Cond.fieldLink R_Painter 89 "StrokeRaster$Pieces" "oy" "[I" ∈ allw := kw_1 (k := 123) rfl rfl
theorem k_f_Pieces_30 : Cond.fieldLink R_Pieces 30 "StrokeRaster$Pieces" "before" "[I" ∈ allw := kw_1 (k := 124) rfl rfl
theorem k_f_Painter_103 : Cond.fieldLink R_Painter 103 "StrokeRaster$Pieces" "before" "[I" ∈ allw := kw_1 (k := 125) rfl rfl
theorem k_f_Pieces_33 : Cond.fieldLink R_Pieces 33 "StrokeRaster$Pieces" "kind" "[I" ∈ allw := kw_1 (k := 126) rfl rfl
theorem k_f_Painter_110 : Cond.fieldLink R_Painter 110 "StrokeRaster$Pieces" "kind" "[I" ∈ allw := kw_1 (k := 127) rfl rfl
theorem k_f_Pieces_40 : Cond.fieldLink R_Pieces 40 "StrokeRaster$Pieces" "held" "I" ∈ allw := kw_1 (k := 128) rfl rfl
theorem k_f_Painter_23 : Cond.fieldLink R_Painter 23 "StrokeRaster$Pieces" "held" "I" ∈ allw := kw_1 (k := 129) rfl rfl
theorem k_f_Walker_92 : Cond.fieldLink R_Walker 92 "StrokeRaster$Pieces" "held" "I" ∈ allw := kw_1 (k := 130) rfl rfl
theorem k_f_SR_158 : Cond.fieldLink R_SR 158 "StrokeRaster$Pieces" "held" "I" ∈ allw := kw_1 (k := 131) rfl rfl
theorem k_f_Pieces_43 : Cond.fieldLink R_Pieces 43 "StrokeRaster$Pieces" "full" "Z" ∈ allw := kw_1 (k := 132) rfl rfl
theorem k_f_Walker_41 : Cond.fieldLink R_Walker 41 "StrokeRaster$Pieces" "full" "Z" ∈ allw := kw_1 (k := 133) rfl rfl
theorem k_f_SR_154 : Cond.fieldLink R_SR 154 "StrokeRaster$Pieces" "full" "Z" ∈ allw := kw_1 (k := 134) rfl rfl
theorem k_f_Pieces_36 : Cond.fieldLink R_Pieces 36 "StrokeRaster$Pieces" "last" "I" ∈ allw := kw_1 (k := 135) rfl rfl
theorem k_c_SR_30 : Cond.classLink R_SR 30 "StrokeRaster$Walker" ∈ allw := kw_1 (k := 159) rfl rfl
theorem k_ib_Walker : Cond.instantiable R_Walker 17 ∈ allw := kw_1 (k := 160) rfl rfl
theorem k_m_SR_32 : Cond.methodLink R_SR 32 y_Walker_init ∈ allw := kw_1 (k := 161) rfl rfl
theorem k_im_Walker_init : Cond.instanceMethod y_Walker_init ∈ allw := kw_1 (k := 162) rfl rfl
theorem k_cd_Walker_init : Cond.code y_Walker_init b_Walker_init 4 none ∈ allw := kw_1 (k := 163) rfl rfl
theorem k_m_Walker_3 : Cond.methodLink R_Walker 3 objectInit ∈ allw := kw_1 (k := 164) rfl rfl
theorem k_f_Walker_9 : Cond.fieldLink R_Walker 9 "StrokeRaster$Walker" "path" "LStrokeRaster$Path;" ∈ allw := kw_1 (k := 165) rfl rfl
theorem k_f_Walker_15 : Cond.fieldLink R_Walker 15 "StrokeRaster$Walker" "pen" "LStrokeRaster$Pen;" ∈ allw := kw_1 (k := 166) rfl rfl
theorem k_f_Walker_19 : Cond.fieldLink R_Walker 19 "StrokeRaster$Walker" "pieces" "LStrokeRaster$Pieces;" ∈ allw := kw_1 (k := 167) rfl rfl
theorem k_f_Walker_23 : Cond.fieldLink R_Walker 23 "StrokeRaster$Walker" "fresh" "Z" ∈ allw := kw_1 (k := 168) rfl rfl
theorem k_f_Walker_48 : Cond.fieldLink R_Walker 48 "StrokeRaster$Walker" "startDash" "I" ∈ allw := kw_1 (k := 169) rfl rfl
theorem k_f_Walker_51 : Cond.fieldLink R_Walker 51 "StrokeRaster$Walker" "startOn" "Z" ∈ allw := kw_1 (k := 170) rfl rfl
theorem k_f_Walker_76 : Cond.fieldLink R_Walker 76 "StrokeRaster$Walker" "startRest" "I" ∈ allw := kw_1 (k := 171) rfl rfl
theorem k_f_Walker_99 : Cond.fieldLink R_Walker 99 "StrokeRaster$Walker" "dash" "I" ∈ allw := kw_1 (k := 172) rfl rfl
theorem k_f_Walker_102 : Cond.fieldLink R_Walker 102 "StrokeRaster$Walker" "on" "Z" ∈ allw := kw_1 (k := 173) rfl rfl
theorem k_f_Walker_105 : Cond.fieldLink R_Walker 105 "StrokeRaster$Walker" "rest" "I" ∈ allw := kw_1 (k := 174) rfl rfl
theorem k_f_Walker_137 : Cond.fieldLink R_Walker 137 "StrokeRaster$Walker" "fromX" "I" ∈ allw := kw_1 (k := 175) rfl rfl
theorem k_f_Walker_140 : Cond.fieldLink R_Walker 140 "StrokeRaster$Walker" "fromY" "I" ∈ allw := kw_1 (k := 176) rfl rfl
theorem k_f_Walker_143 : Cond.fieldLink R_Walker 143 "StrokeRaster$Walker" "alongX" "I" ∈ allw := kw_1 (k := 177) rfl rfl
theorem k_f_Walker_146 : Cond.fieldLink R_Walker 146 "StrokeRaster$Walker" "alongY" "I" ∈ allw := kw_1 (k := 178) rfl rfl
theorem k_f_Walker_153 : Cond.fieldLink R_Walker 153 "StrokeRaster$Walker" "offsetX" "I" ∈ allw := kw_1 (k := 179) rfl rfl
theorem k_f_Walker_156 : Cond.fieldLink R_Walker 156 "StrokeRaster$Walker" "offsetY" "I" ∈ allw := kw_1 (k := 180) rfl rfl
theorem k_f_Walker_115 : Cond.fieldLink R_Walker 115 "StrokeRaster$Walker" "length" "I" ∈ allw := kw_1 (k := 181) rfl rfl
theorem k_c_SR_39 : Cond.classLink R_SR 39 "StrokeRaster$Grid" ∈ allw := kw_1 (k := 217) rfl rfl
theorem k_ib_Grid : Cond.instantiable R_Grid 15 ∈ allw := kw_1 (k := 218) rfl rfl
theorem k_im_Grid_init : Cond.instanceMethod y_Grid_init ∈ allw := kw_1 (k := 220) rfl rfl
theorem k_cd_Grid_init : Cond.code y_Grid_init b_Grid_init 1 none ∈ allw := kw_1 (k := 221) rfl rfl
theorem k_m_Grid_3 : Cond.methodLink R_Grid 3 objectInit ∈ allw := kw_1 (k := 222) rfl rfl
theorem k_f_Grid_9 : Cond.fieldLink R_Grid 9 "StrokeRaster$Grid" "rows" "[J" ∈ allw := kw_1 (k := 223) rfl rfl
theorem k_f_Grid_38 : Cond.fieldLink R_Grid 38 "StrokeRaster$Grid" "startX" "I" ∈ allw := kw_1 (k := 224) rfl rfl
theorem k_f_Grid_15 : Cond.fieldLink R_Grid 15 "StrokeRaster$Grid" "stepX" "I" ∈ allw := kw_1 (k := 225) rfl rfl
theorem k_f_Grid_19 : Cond.fieldLink R_Grid 19 "StrokeRaster$Grid" "wide" "I" ∈ allw := kw_1 (k := 226) rfl rfl
theorem k_f_Grid_54 : Cond.fieldLink R_Grid 54 "StrokeRaster$Grid" "startY" "I" ∈ allw := kw_1 (k := 227) rfl rfl
theorem k_f_Grid_22 : Cond.fieldLink R_Grid 22 "StrokeRaster$Grid" "stepY" "I" ∈ allw := kw_1 (k := 228) rfl rfl
theorem k_f_Grid_25 : Cond.fieldLink R_Grid 25 "StrokeRaster$Grid" "high" "I" ∈ allw := kw_1 (k := 229) rfl rfl
theorem k_f_Grid_28 : Cond.fieldLink R_Grid 28 "StrokeRaster$Grid" "wholeRow" "J" ∈ allw := kw_1 (k := 230) rfl rfl
theorem k_f_Grid_57 : Cond.fieldLink R_Grid 57 "StrokeRaster$Grid" "filledRows" "I" ∈ allw := kw_1 (k := 231) rfl rfl
theorem k_f_Grid_32 : Cond.fieldLink R_Grid 32 "StrokeRaster$Grid" "xs" "[J" ∈ allw := kw_1 (k := 232) rfl rfl
theorem k_f_Grid_35 : Cond.fieldLink R_Grid 35 "StrokeRaster$Grid" "ys" "[J" ∈ allw := kw_1 (k := 233) rfl rfl
theorem k_f_Grid_72 : Cond.fieldLink R_Grid 72 "StrokeRaster$Grid" "corners" "I" ∈ allw := kw_1 (k := 234) rfl rfl
theorem k_f_Grid_66 : Cond.fieldLink R_Grid 66 "StrokeRaster$Grid" "originX" "I" ∈ allw := kw_1 (k := 235) rfl rfl
theorem k_f_Grid_69 : Cond.fieldLink R_Grid 69 "StrokeRaster$Grid" "originY" "I" ∈ allw := kw_1 (k := 236) rfl rfl
theorem k_f_Grid_81 : Cond.fieldLink R_Grid 81 "StrokeRaster$Grid" "turn" "J" ∈ allw := kw_1 (k := 237) rfl rfl
theorem k_ac_long : Cond.arrayClass (newarray.typeOf .long) ∈ allw := kw_2 (k := 29) rfl rfl
theorem k_c_SR_46 : Cond.classLink R_SR 46 "StrokeRaster$Painter" ∈ allw := kw_2 (k := 30) rfl rfl
theorem k_ib_Painter : Cond.instantiable R_Painter 3 ∈ allw := kw_2 (k := 31) rfl rfl
theorem k_m_SR_48 : Cond.methodLink R_SR 48 y_Painter_init ∈ allw := kw_2 (k := 32) rfl rfl
theorem k_im_Painter_init : Cond.instanceMethod y_Painter_init ∈ allw := kw_2 (k := 33) rfl rfl
theorem k_cd_Painter_init : Cond.code y_Painter_init b_Painter_init 4 none ∈ allw := kw_2 (k := 34) rfl rfl
theorem k_m_Painter_3 : Cond.methodLink R_Painter 3 objectInit ∈ allw := kw_2 (k := 35) rfl rfl
theorem k_f_Painter_9 : Cond.fieldLink R_Painter 9 "StrokeRaster$Painter" "pen" "LStrokeRaster$Pen;" ∈ allw := kw_2 (k := 36) rfl rfl
theorem k_f_Painter_15 : Cond.fieldLink R_Painter 15 "StrokeRaster$Painter" "pieces" "LStrokeRaster$Pieces;" ∈ allw := kw_2 (k := 37) rfl rfl
theorem k_f_Painter_19 : Cond.fieldLink R_Painter 19 "StrokeRaster$Painter" "grid" "LStrokeRaster$Grid;" ∈ allw := kw_2 (k := 38) rfl rfl
theorem k_f_SR_10 : Cond.fieldLink R_SR 10 "StrokeRaster" "path" "LStrokeRaster$Path;" ∈ allw := kw_2 (k := 46) rfl rfl
theorem k_f_SR_19 : Cond.fieldLink R_SR 19 "StrokeRaster" "tool" "LStrokeRaster$Pen;" ∈ allw := kw_2 (k := 47) rfl rfl
theorem k_f_SR_26 : Cond.fieldLink R_SR 26 "StrokeRaster" "pieces" "LStrokeRaster$Pieces;" ∈ allw := kw_2 (k := 48) rfl rfl
theorem k_f_SR_35 : Cond.fieldLink R_SR 35 "StrokeRaster" "walker" "LStrokeRaster$Walker;" ∈ allw := kw_2 (k := 49) rfl rfl
theorem k_f_SR_42 : Cond.fieldLink R_SR 42 "StrokeRaster" "grid" "LStrokeRaster$Grid;" ∈ allw := kw_2 (k := 50) rfl rfl
theorem k_f_SR_51 : Cond.fieldLink R_SR 51 "StrokeRaster" "painter" "LStrokeRaster$Painter;" ∈ allw := kw_2 (k := 51) rfl rfl
theorem k_f_SR_55 : Cond.fieldLink R_SR 55 "StrokeRaster" "picture" "[J" ∈ allw := kw_2 (k := 52) rfl rfl
theorem k_f_SR_190 : Cond.fieldLink R_SR 190 "StrokeRaster" "known" "J" ∈ allw := kw_2 (k := 53) rfl rfl
theorem k_f_SR_97 : Cond.fieldLink R_SR 97 "StrokeRaster" "firstControlX" "I" ∈ allw := kw_2 (k := 54) rfl rfl
theorem k_f_SR_100 : Cond.fieldLink R_SR 100 "StrokeRaster" "firstControlY" "I" ∈ allw := kw_2 (k := 55) rfl rfl
theorem k_f_SR_103 : Cond.fieldLink R_SR 103 "StrokeRaster" "secondControlX" "I" ∈ allw := kw_2 (k := 56) rfl rfl
theorem k_f_SR_106 : Cond.fieldLink R_SR 106 "StrokeRaster" "secondControlY" "I" ∈ allw := kw_2 (k := 57) rfl rfl
theorem k_m_La_81 : Cond.methodLink R_La 81 y_SR_clear ∈ allw := kw_2 (k := 83) rfl rfl
theorem k_im_SR_clear : Cond.instanceMethod y_SR_clear ∈ allw := kw_2 (k := 84) rfl rfl
theorem k_se_SR_clear : Cond.selects R_SR y_SR_clear y_SR_clear ∈ allw := kw_2 (k := 85) rfl rfl
theorem k_cd_SR_clear : Cond.code y_SR_clear b_SR_clear 2 (some .int) ∈ allw := kw_2 (k := 86) rfl rfl
theorem k_m_SR_125 : Cond.methodLink R_SR 125 y_Path_drop ∈ allw := kw_2 (k := 87) rfl rfl
theorem k_im_Path_drop : Cond.instanceMethod y_Path_drop ∈ allw := kw_2 (k := 88) rfl rfl
theorem k_se_Path_drop : Cond.selects R_Path y_Path_drop y_Path_drop ∈ allw := kw_2 (k := 89) rfl rfl
theorem k_cd_Path_drop : Cond.code y_Path_drop b_Path_drop 1 none ∈ allw := kw_2 (k := 90) rfl rfl
theorem k_m_SR_86 : Cond.methodLink R_SR 86 y_SR_forget ∈ allw := kw_2 (k := 91) rfl rfl
theorem k_im_SR_forget : Cond.instanceMethod y_SR_forget ∈ allw := kw_2 (k := 93) rfl rfl
theorem k_cd_SR_forget : Cond.code y_SR_forget b_SR_forget 1 none ∈ allw := kw_2 (k := 94) rfl rfl
theorem k_m_SR_206 : Cond.methodLink R_SR 206 y_Walker_forget ∈ allw := kw_2 (k := 95) rfl rfl
theorem k_im_Walker_forget : Cond.instanceMethod y_Walker_forget ∈ allw := kw_2 (k := 96) rfl rfl
theorem k_se_Walker_forget : Cond.selects R_Walker y_Walker_forget y_Walker_forget ∈ allw := kw_2 (k := 97) rfl rfl
theorem k_cd_Walker_forget : Cond.code y_Walker_forget b_Walker_forget 1 none ∈ allw := kw_2 (k := 98) rfl rfl
theorem k_m_La_95 : Cond.methodLink R_La 95 y_SR_count ∈ allw := kw_2 (k := 99) rfl rfl
theorem k_im_SR_count : Cond.instanceMethod y_SR_count ∈ allw := kw_2 (k := 100) rfl rfl
theorem k_se_SR_count : Cond.selects R_SR y_SR_count y_SR_count ∈ allw := kw_2 (k := 101) rfl rfl
theorem k_cd_SR_count : Cond.code y_SR_count b_SR_count 2 (some .int) ∈ allw := kw_2 (k := 102) rfl rfl
theorem k_m_SR_151 : Cond.methodLink R_SR 151 y_Walker_walk ∈ allw := kw_2 (k := 103) rfl rfl
theorem k_im_Walker_walk : Cond.instanceMethod y_Walker_walk ∈ allw := kw_2 (k := 104) rfl rfl
theorem k_se_Walker_walk : Cond.selects R_Walker y_Walker_walk y_Walker_walk ∈ allw := kw_2 (k := 105) rfl rfl
theorem k_cd_Walker_walk : Cond.code y_Walker_walk b_Walker_walk 2 none ∈ allw := kw_2 (k := 106) rfl rfl
theorem k_m_Walker_27 : Cond.methodLink R_Walker 27 y_Pieces_drop ∈ allw := kw_2 (k := 107) rfl rfl
theorem k_im_Pieces_drop : Cond.instanceMethod y_Pieces_drop ∈ allw := kw_2 (k := 108) rfl rfl
theorem k_se_Pieces_drop : Cond.selects R_Pieces y_Pieces_drop y_Pieces_drop ∈ allw := kw_2 (k := 109) rfl rfl
theorem k_cd_Pieces_drop : Cond.code y_Pieces_drop b_Pieces_drop 1 none ∈ allw := kw_2 (k := 110) rfl rfl
theorem k_m_Walker_32 : Cond.methodLink R_Walker 32 y_Walker_passPhase ∈ allw := kw_2 (k := 111) rfl rfl
theorem k_im_Walker_passPhase : Cond.instanceMethod y_Walker_passPhase ∈ allw := kw_2 (k := 113) rfl rfl
theorem k_cd_Walker_passPhase : Cond.code y_Walker_passPhase b_Walker_passPhase 3 none ∈ allw := kw_2 (k := 114) rfl rfl
theorem k_m_Walker_62 : Cond.methodLink R_Walker 62 y_Math_floorMod_III ∈ allw := kw_2 (k := 115) rfl rfl
theorem k_st_Math_floorMod_III : Cond.static y_Math_floorMod_III ∈ allw := kw_2 (k := 116) rfl rfl
theorem k_cd_Math_floorMod_III : Cond.code y_Math_floorMod_III b_Math_floorMod_III 3 (some .int) ∈ allw := kw_2 (k := 117) rfl rfl
theorem k_m_Walker_72 : Cond.methodLink R_Walker 72 y_Walker_dashAfter ∈ allw := kw_2 (k := 118) rfl rfl
theorem k_im_Walker_dashAfter : Cond.instanceMethod y_Walker_dashAfter ∈ allw := kw_2 (k := 120) rfl rfl
theorem k_cd_Walker_dashAfter : Cond.code y_Walker_dashAfter b_Walker_dashAfter 2 (some .int) ∈ allw := kw_2 (k := 121) rfl rfl
theorem k_m_Walker_44 : Cond.methodLink R_Walker 44 y_Walker_walkSubpath ∈ allw := kw_2 (k := 122) rfl rfl
theorem k_im_Walker_walkSubpath : Cond.instanceMethod y_Walker_walkSubpath ∈ allw := kw_2 (k := 124) rfl rfl
theorem k_cd_Walker_walkSubpath : Cond.code y_Walker_walkSubpath b_Walker_walkSubpath 10 none ∈ allw := kw_2 (k := 125) rfl rfl
theorem k_m_Walker_85 : Cond.methodLink R_Walker 85 y_Path_behind ∈ allw := kw_2 (k := 126) rfl rfl
theorem k_im_Path_behind : Cond.instanceMethod y_Path_behind ∈ allw := kw_2 (k := 127) rfl rfl
theorem k_se_Path_behind : Cond.selects R_Path y_Path_behind y_Path_behind ∈ allw := kw_2 (k := 128) rfl rfl
theorem k_cd_Path_behind : Cond.code y_Path_behind b_Path_behind 2 (some .int) ∈ allw := kw_2 (k := 129) rfl rfl
theorem k_m_Walker_95 : Cond.methodLink R_Walker 95 y_Pen_isDashed ∈ allw := kw_2 (k := 130) rfl rfl
theorem k_im_Pen_isDashed : Cond.instanceMethod y_Pen_isDashed ∈ allw := kw_2 (k := 131) rfl rfl
theorem k_se_Pen_isDashed : Cond.selects R_Pen y_Pen_isDashed y_Pen_isDashed ∈ allw := kw_2 (k := 132) rfl rfl
theorem k_cd_Pen_isDashed : Cond.code y_Pen_isDashed b_Pen_isDashed 1 (some .boolean) ∈ allw := kw_2 (k := 133) rfl rfl
theorem k_m_Walker_108 : Cond.methodLink R_Walker 108 y_Walker_takeSegment ∈ allw := kw_2 (k := 134) rfl rfl
theorem k_im_Walker_takeSegment : Cond.instanceMethod y_Walker_takeSegment ∈ allw := kw_2 (k := 136) rfl rfl
theorem k_cd_Walker_takeSegment : Cond.code y_Walker_takeSegment b_Walker_takeSegment 5 (some .boolean) ∈ allw := kw_2 (k := 137) rfl rfl
theorem k_m_Walker_149 : Cond.methodLink R_Walker 149 y_Walker_offsetPart ∈ allw := kw_2 (k := 138) rfl rfl
theorem k_im_Walker_offsetPart : Cond.instanceMethod y_Walker_offsetPart ∈ allw := kw_2 (k := 140) rfl rfl
theorem k_cd_Walker_offsetPart : Cond.code y_Walker_offsetPart b_Walker_offsetPart 7 (some .int) ∈ allw := kw_2 (k := 141) rfl rfl
theorem k_k_Walker_165 : Cond.constantLong R_Walker 165 (2) ∈ allw := kw_2 (k := 142) rfl rfl
theorem k_st_SR_root : Cond.static y_SR_root ∈ allw := kw_2 (k := 144) rfl rfl
theorem k_cd_SR_root : Cond.code y_SR_root b_SR_root 8 (some .long) ∈ allw := kw_2 (k := 145) rfl rfl
theorem k_k_SR_209 : Cond.constantLong R_SR 209 (8388608) ∈ allw := kw_2 (k := 146) rfl rfl
theorem k_k_Walker_159 : Cond.constantLong R_Walker 159 (65536) ∈ allw := kw_2 (k := 147) rfl rfl
theorem k_m_Walker_112 : Cond.methodLink R_Walker 112 y_Walker_cutSegment ∈ allw := kw_2 (k := 148) rfl rfl
theorem k_im_Walker_cutSegment : Cond.instanceMethod y_Walker_cutSegment ∈ allw := kw_2 (k := 150) rfl rfl
theorem k_cd_Walker_cutSegment : Cond.code y_Walker_cutSegment b_Walker_cutSegment 4 none ∈ allw := kw_2 (k := 151) rfl rfl
theorem k_k_Walker_170 : Cond.constant R_Walker 170 (1000000) ∈ allw := kw_2 (k := 152) rfl rfl
theorem k_m_Walker_171 : Cond.methodLink R_Walker 171 Lib.Math.min.name ∈ allw := kw_2 (k := 153) rfl rfl
theorem k_st_min : Cond.static Lib.Math.min.name ∈ allw := kw_2 (k := 154) rfl rfl
theorem k_cd_min : Cond.code Lib.Math.min.name Lib.Math.min.code 2 (some .int) ∈ allw := kw_2 (k := 155) rfl rfl
theorem k_m_Walker_118 : Cond.methodLink R_Walker 118 y_Walker_addPiece ∈ allw := kw_2 (k := 156) rfl rfl
theorem k_im_Walker_addPiece : Cond.instanceMethod y_Walker_addPiece ∈ allw := kw_2 (k := 158) rfl rfl
theorem k_cd_Walker_addPiece : Cond.code y_Walker_addPiece b_Walker_addPiece 3 none ∈ allw := kw_2 (k := 159) rfl rfl
theorem k_m_Walker_174 : Cond.methodLink R_Walker 174 y_Walker_fineAt ∈ allw := kw_2 (k := 160) rfl rfl
theorem k_im_Walker_fineAt : Cond.instanceMethod y_Walker_fineAt ∈ allw := kw_2 (k := 162) rfl rfl
theorem k_cd_Walker_fineAt : Cond.code y_Walker_fineAt b_Walker_fineAt 4 (some .int) ∈ allw := kw_2 (k := 163) rfl rfl
theorem k_k_Walker_182 : Cond.constantLong R_Walker 182 (32) ∈ allw := kw_2 (k := 164) rfl rfl
theorem k_m_Walker_184 : Cond.methodLink R_Walker 184 y_Math_floorDiv_JJJ ∈ allw := kw_2 (k := 165) rfl rfl
theorem k_st_Math_floorDiv_JJJ : Cond.static y_Math_floorDiv_JJJ ∈ allw := kw_2 (k := 166) rfl rfl
theorem k_cd_Math_floorDiv_JJJ : Cond.code y_Math_floorDiv_JJJ b_Math_floorDiv_JJJ 6 (some .long) ∈ allw := kw_2 (k := 167) rfl rfl
theorem k_m_Walker_178 : Cond.methodLink R_Walker 178 y_Pieces_add ∈ allw := kw_2 (k := 168) rfl rfl
theorem k_im_Pieces_add : Cond.instanceMethod y_Pieces_add ∈ allw := kw_2 (k := 169) rfl rfl
theorem k_se_Pieces_add : Cond.selects R_Pieces y_Pieces_add y_Pieces_add ∈ allw := kw_2 (k := 170) rfl rfl
theorem k_cd_Pieces_add : Cond.code y_Pieces_add b_Pieces_add 7 none ∈ allw := kw_2 (k := 171) rfl rfl
theorem k_m_Pieces_47 : Cond.methodLink R_Pieces 47 Lib.Math.min.name ∈ allw := kw_2 (k := 172) rfl rfl
theorem k_m_Pieces_53 : Cond.methodLink R_Pieces 53 y_Pieces_grow ∈ allw := kw_2 (k := 173) rfl rfl
theorem k_im_Pieces_grow : Cond.instanceMethod y_Pieces_grow ∈ allw := kw_2 (k := 175) rfl rfl
theorem k_cd_Pieces_grow : Cond.code y_Pieces_grow b_Pieces_grow 2 none ∈ allw := kw_2 (k := 176) rfl rfl
theorem k_m_Pieces_64 : Cond.methodLink R_Pieces 64 y_Arr_copyOf_AIIAI ∈ allw := kw_2 (k := 177) rfl rfl
theorem k_st_Arr_copyOf_AIIAI : Cond.static y_Arr_copyOf_AIIAI ∈ allw := kw_2 (k := 178) rfl rfl
theorem k_cd_Arr_copyOf_AIIAI : Cond.code y_Arr_copyOf_AIIAI b_Arr_copyOf_AIIAI 3 (some (.array .int)) ∈ allw := kw_2 (k := 179) rfl rfl
theorem k_c_Arr_317 : Cond.classLink R_Arr 317 "[I" ∈ allw := kw_2 (k := 186) rfl rfl
theorem k_m_Arr_304 : Cond.methodLink R_Arr 304 Lib.Math.min.name ∈ allw := kw_2 (k := 187) rfl rfl
theorem k_m_Arr_150 : Cond.methodLink R_Arr 150 arraycopyName ∈ allw := kw_2 (k := 188) rfl rfl
theorem k_st_arraycopy : Cond.static arraycopyName ∈ allw := kw_2 (k := 189) rfl rfl
theorem k_na_arraycopy : Cond.native arraycopyName ∈ allw := kw_2 (k := 190) rfl rfl
theorem k_m_Walker_134 : Cond.methodLink R_Walker 134 y_Pieces_endChain ∈ allw := kw_2 (k := 191) rfl rfl
theorem k_im_Pieces_endChain : Cond.instanceMethod y_Pieces_endChain ∈ allw := kw_2 (k := 192) rfl rfl
theorem k_se_Pieces_endChain : Cond.selects R_Pieces y_Pieces_endChain y_Pieces_endChain ∈ allw := kw_2 (k := 193) rfl rfl
theorem k_cd_Pieces_endChain : Cond.code y_Pieces_endChain b_Pieces_endChain 2 none ∈ allw := kw_2 (k := 194) rfl rfl
theorem k_m_Walker_128 : Cond.methodLink R_Walker 128 y_Pieces_addDot ∈ allw := kw_2 (k := 195) rfl rfl
theorem k_im_Pieces_addDot : Cond.instanceMethod y_Pieces_addDot ∈ allw := kw_2 (k := 196) rfl rfl
theorem k_se_Pieces_addDot : Cond.selects R_Pieces y_Pieces_addDot y_Pieces_addDot ∈ allw := kw_2 (k := 197) rfl rfl
theorem k_cd_Pieces_addDot : Cond.code y_Pieces_addDot b_Pieces_addDot 3 none ∈ allw := kw_2 (k := 198) rfl rfl
theorem k_m_Pieces_57 : Cond.methodLink R_Pieces 57 y_Pieces_add ∈ allw := kw_2 (k := 199) rfl rfl
theorem k_m_Pieces_61 : Cond.methodLink R_Pieces 61 y_Pieces_endChain ∈ allw := kw_2 (k := 200) rfl rfl
theorem k_m_Walker_131 : Cond.methodLink R_Walker 131 y_Pieces_closeChain ∈ allw := kw_2 (k := 201) rfl rfl
theorem k_im_Pieces_closeChain : Cond.instanceMethod y_Pieces_closeChain ∈ allw := kw_2 (k := 202) rfl rfl
theorem k_se_Pieces_closeChain : Cond.selects R_Pieces y_Pieces_closeChain y_Pieces_closeChain ∈ allw := kw_2 (k := 203) rfl rfl
theorem k_cd_Pieces_closeChain : Cond.code y_Pieces_closeChain b_Pieces_closeChain 2 none ∈ allw := kw_2 (k := 204) rfl rfl
theorem k_m_SR_161 : Cond.methodLink R_SR 161 y_SR_paintPicture ∈ allw := kw_2 (k := 205) rfl rfl
theorem k_im_SR_paintPicture : Cond.instanceMethod y_SR_paintPicture ∈ allw := kw_2 (k := 207) rfl rfl
theorem k_cd_SR_paintPicture : Cond.code y_SR_paintPicture b_SR_paintPicture 2 none ∈ allw := kw_2 (k := 208) rfl rfl
theorem k_k_SR_207 : Cond.constantLong R_SR 207 (-1) ∈ allw := kw_2 (k := 209) rfl rfl
theorem k_m_SR_168 : Cond.methodLink R_SR 168 y_Grid_across ∈ allw := kw_2 (k := 210) rfl rfl
theorem k_im_Grid_across : Cond.instanceMethod y_Grid_across ∈ allw := kw_2 (k := 211) rfl rfl
theorem k_se_Grid_across : Cond.selects R_Grid y_Grid_across y_Grid_across ∈ allw := kw_2 (k := 212) rfl rfl
theorem k_cd_Grid_across : Cond.code y_Grid_across b_Grid_across 4 none ∈ allw := kw_2 (k := 213) rfl rfl
theorem k_m_Grid_41 : Cond.methodLink R_Grid 41 Lib.Math.max.name ∈ allw := kw_2 (k := 214) rfl rfl
theorem k_st_max : Cond.static Lib.Math.max.name ∈ allw := kw_2 (k := 215) rfl rfl
theorem k_cd_max : Cond.code Lib.Math.max.name Lib.Math.max.code 2 (some .int) ∈ allw := kw_2 (k := 216) rfl rfl
theorem k_m_Grid_47 : Cond.methodLink R_Grid 47 Lib.Math.min.name ∈ allw := kw_2 (k := 217) rfl rfl
theorem k_m_Grid_50 : Cond.methodLink R_Grid 50 y_Grid_bitsFromTo ∈ allw := kw_2 (k := 218) rfl rfl
theorem k_st_Grid_bitsFromTo : Cond.static y_Grid_bitsFromTo ∈ allw := kw_2 (k := 219) rfl rfl
theorem k_cd_Grid_bitsFromTo : Cond.code y_Grid_bitsFromTo b_Grid_bitsFromTo 4 (some .long) ∈ allw := kw_2 (k := 220) rfl rfl
theorem k_k_Grid_79 : Cond.constantLong R_Grid 79 (-1) ∈ allw := kw_2 (k := 221) rfl rfl
theorem k_k_Grid_120 : Cond.constantLong R_Grid 120 (63) ∈ allw := kw_2 (k := 222) rfl rfl
theorem k_m_SR_172 : Cond.methodLink R_SR 172 y_Grid_upwards ∈ allw := kw_2 (k := 223) rfl rfl
theorem k_im_Grid_upwards : Cond.instanceMethod y_Grid_upwards ∈ allw := kw_2 (k := 224) rfl rfl
theorem k_se_Grid_upwards : Cond.selects R_Grid y_Grid_upwards y_Grid_upwards ∈ allw := kw_2 (k := 225) rfl rfl
theorem k_cd_Grid_upwards : Cond.code y_Grid_upwards b_Grid_upwards 4 none ∈ allw := kw_2 (k := 226) rfl rfl
theorem k_m_Grid_60 : Cond.methodLink R_Grid 60 y_Arr_fill_AJJV ∈ allw := kw_2 (k := 227) rfl rfl
theorem k_st_Arr_fill_AJJV : Cond.static y_Arr_fill_AJJV ∈ allw := kw_2 (k := 228) rfl rfl
theorem k_cd_Arr_fill_AJJV : Cond.code y_Arr_fill_AJJV b_Arr_fill_AJJV 5 none ∈ allw := kw_2 (k := 229) rfl rfl
theorem k_m_SR_175 : Cond.methodLink R_SR 175 y_Painter_paint ∈ allw := kw_2 (k := 230) rfl rfl
theorem k_im_Painter_paint : Cond.instanceMethod y_Painter_paint ∈ allw := kw_2 (k := 231) rfl rfl
theorem k_se_Painter_paint : Cond.selects R_Painter y_Painter_paint y_Painter_paint ∈ allw := kw_2 (k := 232) rfl rfl
theorem k_cd_Painter_paint : Cond.code y_Painter_paint b_Painter_paint 2 none ∈ allw := kw_2 (k := 233) rfl rfl
theorem k_m_Painter_29 : Cond.methodLink R_Painter 29 y_Grid_isFilled ∈ allw := kw_2 (k := 234) rfl rfl
theorem k_im_Grid_isFilled : Cond.instanceMethod y_Grid_isFilled ∈ allw := kw_2 (k := 235) rfl rfl
theorem k_se_Grid_isFilled : Cond.selects R_Grid y_Grid_isFilled y_Grid_isFilled ∈ allw := kw_2 (k := 236) rfl rfl
theorem k_cd_Grid_isFilled : Cond.code y_Grid_isFilled b_Grid_isFilled 2 (some .boolean) ∈ allw := kw_2 (k := 237) rfl rfl
theorem k_m_Painter_35 : Cond.methodLink R_Painter 35 y_Painter_isNear ∈ allw := kw_2 (k := 238) rfl rfl
theorem k_im_Painter_isNear : Cond.instanceMethod y_Painter_isNear ∈ allw := kw_3 (k := 0) rfl rfl
theorem k_cd_Painter_isNear : Cond.code y_Painter_isNear b_Painter_isNear 3 (some .boolean) ∈ allw := kw_3 (k := 1) rfl rfl
theorem k_m_Painter_67 : Cond.methodLink R_Painter 67 Lib.Math.min.name ∈ allw := kw_3 (k := 2) rfl rfl
theorem k_m_Painter_73 : Cond.methodLink R_Painter 73 Lib.Math.max.name ∈ allw := kw_3 (k := 3) rfl rfl
theorem k_m_Painter_82 : Cond.methodLink R_Painter 82 y_Grid_meets ∈ allw := kw_3 (k := 4) rfl rfl
theorem k_im_Grid_meets : Cond.instanceMethod y_Grid_meets ∈ allw := kw_3 (k := 5) rfl rfl
theorem k_se_Grid_meets : Cond.selects R_Grid y_Grid_meets y_Grid_meets ∈ allw := kw_3 (k := 6) rfl rfl
theorem k_cd_Grid_meets : Cond.code y_Grid_meets b_Grid_meets 9 (some .boolean) ∈ allw := kw_3 (k := 7) rfl rfl
theorem k_m_Painter_39 : Cond.methodLink R_Painter 39 y_Painter_paintBody ∈ allw := kw_3 (k := 8) rfl rfl
theorem k_im_Painter_paintBody : Cond.instanceMethod y_Painter_paintBody ∈ allw := kw_3 (k := 10) rfl rfl
theorem k_cd_Painter_paintBody : Cond.code y_Painter_paintBody b_Painter_paintBody 6 none ∈ allw := kw_3 (k := 11) rfl rfl
theorem k_m_Painter_92 : Cond.methodLink R_Painter 92 y_Grid_from ∈ allw := kw_3 (k := 12) rfl rfl
theorem k_im_Grid_from : Cond.instanceMethod y_Grid_from ∈ allw := kw_3 (k := 13) rfl rfl
theorem k_se_Grid_from : Cond.selects R_Grid y_Grid_from y_Grid_from ∈ allw := kw_3 (k := 14) rfl rfl
theorem k_cd_Grid_from : Cond.code y_Grid_from b_Grid_from 3 none ∈ allw := kw_3 (k := 15) rfl rfl
theorem k_m_Painter_96 : Cond.methodLink R_Painter 96 y_Grid_corner ∈ allw := kw_3 (k := 16) rfl rfl
theorem k_im_Grid_corner : Cond.instanceMethod y_Grid_corner ∈ allw := kw_3 (k := 17) rfl rfl
theorem k_se_Grid_corner : Cond.selects R_Grid y_Grid_corner y_Grid_corner ∈ allw := kw_3 (k := 18) rfl rfl
theorem k_cd_Grid_corner : Cond.code y_Grid_corner b_Grid_corner 5 none ∈ allw := kw_3 (k := 19) rfl rfl
theorem k_m_Painter_100 : Cond.methodLink R_Painter 100 y_Grid_polygon ∈ allw := kw_3 (k := 20) rfl rfl
theorem k_im_Grid_polygon : Cond.instanceMethod y_Grid_polygon ∈ allw := kw_3 (k := 21) rfl rfl
theorem k_se_Grid_polygon : Cond.selects R_Grid y_Grid_polygon y_Grid_polygon ∈ allw := kw_3 (k := 22) rfl rfl
theorem k_cd_Grid_polygon : Cond.code y_Grid_polygon b_Grid_polygon 6 none ∈ allw := kw_3 (k := 23) rfl rfl
theorem k_m_Grid_75 : Cond.methodLink R_Grid 75 y_Grid_doubledArea ∈ allw := kw_3 (k := 24) rfl rfl
theorem k_im_Grid_doubledArea : Cond.instanceMethod y_Grid_doubledArea ∈ allw := kw_3 (k := 26) rfl rfl
theorem k_cd_Grid_doubledArea : Cond.code y_Grid_doubledArea b_Grid_doubledArea 5 (some .long) ∈ allw := kw_3 (k := 27) rfl rfl
theorem k_m_Grid_84 : Cond.methodLink R_Grid 84 y_Grid_least ∈ allw := kw_3 (k := 28) rfl rfl
theorem k_im_Grid_least : Cond.instanceMethod y_Grid_least ∈ allw := kw_3 (k := 30) rfl rfl
theorem k_cd_Grid_least : Cond.code y_Grid_least b_Grid_least 5 (some .long) ∈ allw := kw_3 (k := 31) rfl rfl
theorem k_m_Grid_102 : Cond.methodLink R_Grid 102 Lib.MathLoose.min_long.x ∈ allw := kw_3 (k := 32) rfl rfl
theorem k_st_min_long : Cond.static Lib.MathLoose.min_long.x ∈ allw := kw_3 (k := 33) rfl rfl
theorem k_cd_min_long : Cond.code Lib.MathLoose.min_long.x Lib.MathLoose.min_long.code 4 (some .long) ∈ allw := kw_3 (k := 34) rfl rfl
theorem k_m_Grid_88 : Cond.methodLink R_Grid 88 y_Grid_firstRow ∈ allw := kw_3 (k := 35) rfl rfl
theorem k_im_Grid_firstRow : Cond.instanceMethod y_Grid_firstRow ∈ allw := kw_3 (k := 37) rfl rfl
theorem k_cd_Grid_firstRow : Cond.code y_Grid_firstRow b_Grid_firstRow 3 (some .int) ∈ allw := kw_3 (k := 38) rfl rfl
theorem k_m_Grid_106 : Cond.methodLink R_Grid 106 y_Math_floorDiv_JJJ ∈ allw := kw_3 (k := 39) rfl rfl
theorem k_m_Grid_104 : Cond.methodLink R_Grid 104 Lib.MathLoose.max_long.x ∈ allw := kw_3 (k := 40) rfl rfl
theorem k_st_max_long : Cond.static Lib.MathLoose.max_long.x ∈ allw := kw_3 (k := 41) rfl rfl
theorem k_cd_max_long : Cond.code Lib.MathLoose.max_long.x Lib.MathLoose.max_long.code 4 (some .long) ∈ allw := kw_3 (k := 42) rfl rfl
theorem k_m_Grid_92 : Cond.methodLink R_Grid 92 y_Grid_greatest ∈ allw := kw_3 (k := 43) rfl rfl
theorem k_im_Grid_greatest : Cond.instanceMethod y_Grid_greatest ∈ allw := kw_3 (k := 45) rfl rfl
theorem k_cd_Grid_greatest : Cond.code y_Grid_greatest b_Grid_greatest 5 (some .long) ∈ allw := kw_3 (k := 46) rfl rfl
theorem k_m_Grid_95 : Cond.methodLink R_Grid 95 y_Grid_lastRow ∈ allw := kw_3 (k := 47) rfl rfl
theorem k_im_Grid_lastRow : Cond.instanceMethod y_Grid_lastRow ∈ allw := kw_3 (k := 49) rfl rfl
theorem k_cd_Grid_lastRow : Cond.code y_Grid_lastRow b_Grid_lastRow 3 (some .int) ∈ allw := kw_3 (k := 50) rfl rfl
theorem k_m_Grid_98 : Cond.methodLink R_Grid 98 y_Grid_polygonBits ∈ allw := kw_3 (k := 51) rfl rfl
theorem k_im_Grid_polygonBits : Cond.instanceMethod y_Grid_polygonBits ∈ allw := kw_3 (k := 53) rfl rfl
theorem k_cd_Grid_polygonBits : Cond.code y_Grid_polygonBits b_Grid_polygonBits 17 (some .long) ∈ allw := kw_3 (k := 54) rfl rfl
theorem k_m_Painter_43 : Cond.methodLink R_Painter 43 y_Painter_paintCaps ∈ allw := kw_3 (k := 55) rfl rfl
theorem k_im_Painter_paintCaps : Cond.instanceMethod y_Painter_paintCaps ∈ allw := kw_3 (k := 57) rfl rfl
theorem k_cd_Painter_paintCaps : Cond.code y_Painter_paintCaps b_Painter_paintCaps 2 none ∈ allw := kw_3 (k := 58) rfl rfl
theorem k_m_Painter_106 : Cond.methodLink R_Painter 106 y_Painter_paintCap ∈ allw := kw_3 (k := 59) rfl rfl
theorem k_im_Painter_paintCap : Cond.instanceMethod y_Painter_paintCap ∈ allw := kw_3 (k := 61) rfl rfl
theorem k_cd_Painter_paintCap : Cond.code y_Painter_paintCap b_Painter_paintCap 9 none ∈ allw := kw_3 (k := 62) rfl rfl
theorem k_m_Painter_116 : Cond.methodLink R_Painter 116 y_Grid_disc ∈ allw := kw_3 (k := 63) rfl rfl
theorem k_im_Grid_disc : Cond.instanceMethod y_Grid_disc ∈ allw := kw_3 (k := 64) rfl rfl
theorem k_se_Grid_disc : Cond.selects R_Grid y_Grid_disc y_Grid_disc ∈ allw := kw_3 (k := 65) rfl rfl
theorem k_cd_Grid_disc : Cond.code y_Grid_disc b_Grid_disc 6 none ∈ allw := kw_3 (k := 66) rfl rfl
theorem k_m_Grid_109 : Cond.methodLink R_Grid 109 y_Grid_meets ∈ allw := kw_3 (k := 67) rfl rfl
theorem k_m_Grid_113 : Cond.methodLink R_Grid 113 y_Grid_discBits ∈ allw := kw_3 (k := 68) rfl rfl
theorem k_im_Grid_discBits : Cond.instanceMethod y_Grid_discBits ∈ allw := kw_3 (k := 70) rfl rfl
theorem k_cd_Grid_discBits : Cond.code y_Grid_discBits b_Grid_discBits 14 (some .long) ∈ allw := kw_3 (k := 71) rfl rfl
theorem k_m_Painter_46 : Cond.methodLink R_Painter 46 y_Painter_paintJoin ∈ allw := kw_3 (k := 73) rfl rfl
theorem k_im_Painter_paintJoin : Cond.instanceMethod y_Painter_paintJoin ∈ allw := kw_3 (k := 75) rfl rfl
theorem k_cd_Painter_paintJoin : Cond.code y_Painter_paintJoin b_Painter_paintJoin 4 none ∈ allw := kw_3 (k := 76) rfl rfl
theorem k_m_Painter_120 : Cond.methodLink R_Painter 120 y_Painter_turnSign ∈ allw := kw_3 (k := 77) rfl rfl
theorem k_im_Painter_turnSign : Cond.instanceMethod y_Painter_turnSign ∈ allw := kw_3 (k := 79) rfl rfl
theorem k_cd_Painter_turnSign : Cond.code y_Painter_turnSign b_Painter_turnSign 5 (some .int) ∈ allw := kw_3 (k := 80) rfl rfl
theorem k_m_Painter_123 : Cond.methodLink R_Painter 123 y_Long_signum_JI ∈ allw := kw_3 (k := 81) rfl rfl
theorem k_st_Long_signum_JI : Cond.static y_Long_signum_JI ∈ allw := kw_3 (k := 82) rfl rfl
theorem k_cd_Long_signum_JI : Cond.code y_Long_signum_JI b_Long_signum_JI 2 (some .int) ∈ allw := kw_3 (k := 83) rfl rfl
theorem k_m_Painter_54 : Cond.methodLink R_Painter 54 y_Painter_paintMiter ∈ allw := kw_3 (k := 84) rfl rfl
theorem k_im_Painter_paintMiter : Cond.instanceMethod y_Painter_paintMiter ∈ allw := kw_3 (k := 86) rfl rfl
theorem k_cd_Painter_paintMiter : Cond.code y_Painter_paintMiter b_Painter_paintMiter 12 none ∈ allw := kw_3 (k := 87) rfl rfl
theorem k_k_Painter_129 : Cond.constantLong R_Painter 129 (8192) ∈ allw := kw_3 (k := 88) rfl rfl
theorem k_m_Painter_134 : Cond.methodLink R_Painter 134 y_Math_floorDiv_JJJ ∈ allw := kw_3 (k := 89) rfl rfl
theorem k_m_SR_178 : Cond.methodLink R_SR 178 y_Grid_bits ∈ allw := kw_3 (k := 90) rfl rfl
theorem k_im_Grid_bits : Cond.instanceMethod y_Grid_bits ∈ allw := kw_3 (k := 91) rfl rfl
theorem k_se_Grid_bits : Cond.selects R_Grid y_Grid_bits y_Grid_bits ∈ allw := kw_3 (k := 92) rfl rfl
theorem k_cd_Grid_bits : Cond.code y_Grid_bits b_Grid_bits 2 (some .long) ∈ allw := kw_3 (k := 93) rfl rfl
theorem k_m_SR_164 : Cond.methodLink R_SR 164 y_SR_countSet ∈ allw := kw_3 (k := 94) rfl rfl
theorem k_im_SR_countSet : Cond.instanceMethod y_SR_countSet ∈ allw := kw_3 (k := 96) rfl rfl
theorem k_cd_SR_countSet : Cond.code y_SR_countSet b_SR_countSet 3 (some .int) ∈ allw := kw_3 (k := 97) rfl rfl
theorem k_m_SR_200 : Cond.methodLink R_SR 200 y_Long_bitCount_JI ∈ allw := kw_3 (k := 98) rfl rfl
theorem k_st_Long_bitCount_JI : Cond.static y_Long_bitCount_JI ∈ allw := kw_3 (k := 99) rfl rfl
theorem k_cd_Long_bitCount_JI : Cond.code y_Long_bitCount_JI b_Long_bitCount_JI 2 (some .int) ∈ allw := kw_3 (k := 100) rfl rfl
theorem k_k_Long_314 : Cond.constantLong R_Long 314 (6148914691236517205) ∈ allw := kw_3 (k := 101) rfl rfl
theorem k_k_Long_316 : Cond.constantLong R_Long 316 (3689348814741910323) ∈ allw := kw_3 (k := 102) rfl rfl
theorem k_k_Long_318 : Cond.constantLong R_Long 318 (1085102592571150095) ∈ allw := kw_3 (k := 103) rfl rfl
theorem k_m_La_58 : Cond.methodLink R_La 58 y_La_move ∈ allw := kw_3 (k := 104) rfl rfl
theorem k_st_La_move : Cond.static y_La_move ∈ allw := kw_3 (k := 105) rfl rfl
theorem k_c_La_13 : Cond.classLink R_La 13 "java/lang/IllegalArgumentException" ∈ allw := kw_3 (k := 107) rfl rfl
theorem k_c_La_15 : Cond.classLink R_La 15 "java/lang/IllegalStateException" ∈ allw := kw_3 (k := 108) rfl rfl
theorem k_m_La_7 : Cond.methodLink R_La 7 y_SR_move ∈ allw := kw_3 (k := 109) rfl rfl
theorem k_im_SR_move : Cond.instanceMethod y_SR_move ∈ allw := kw_3 (k := 110) rfl rfl
theorem k_se_SR_move : Cond.selects R_SR y_SR_move y_SR_move ∈ allw := kw_3 (k := 111) rfl rfl
theorem k_cd_SR_move : Cond.code y_SR_move b_SR_move 3 (some .int) ∈ allw := kw_3 (k := 112) rfl rfl
theorem k_m_SR_59 : Cond.methodLink R_SR 59 y_SR_isCoordinate ∈ allw := kw_3 (k := 113) rfl rfl
theorem k_st_SR_isCoordinate : Cond.static y_SR_isCoordinate ∈ allw := kw_3 (k := 114) rfl rfl
theorem k_cd_SR_isCoordinate : Cond.code y_SR_isCoordinate b_SR_isCoordinate 1 (some .boolean) ∈ allw := kw_3 (k := 115) rfl rfl
theorem k_c_SR_63 : Cond.classLink R_SR 63 "java/lang/IllegalArgumentException" ∈ allw := kw_3 (k := 116) rfl rfl
theorem k_c_SR_77 : Cond.classLink R_SR 77 "java/lang/IllegalStateException" ∈ allw := kw_3 (k := 184) rfl rfl
theorem k_m_SR_82 : Cond.methodLink R_SR 82 y_Path_begin ∈ allw := kw_3 (k := 200) rfl rfl
theorem k_im_Path_begin : Cond.instanceMethod y_Path_begin ∈ allw := kw_3 (k := 201) rfl rfl
theorem k_se_Path_begin : Cond.selects R_Path y_Path_begin y_Path_begin ∈ allw := kw_3 (k := 202) rfl rfl
theorem k_cd_Path_begin : Cond.code y_Path_begin b_Path_begin 3 none ∈ allw := kw_3 (k := 203) rfl rfl
theorem k_m_Path_32 : Cond.methodLink R_Path 32 y_Path_put ∈ allw := kw_3 (k := 204) rfl rfl
theorem k_im_Path_put : Cond.instanceMethod y_Path_put ∈ allw := kw_3 (k := 205) rfl rfl
theorem k_se_Path_put : Cond.selects R_Path y_Path_put y_Path_put ∈ allw := kw_3 (k := 206) rfl rfl
theorem k_cd_Path_put : Cond.code y_Path_put b_Path_put 4 none ∈ allw := kw_3 (k := 207) rfl rfl
theorem k_m_Path_36 : Cond.methodLink R_Path 36 Lib.Math.min.name ∈ allw := kw_3 (k := 208) rfl rfl
theorem k_m_Path_42 : Cond.methodLink R_Path 42 y_Arr_copyOf_AIIAI ∈ allw := kw_3 (k := 209) rfl rfl
theorem k_m_La_67 : Cond.methodLink R_La 67 y_La_line ∈ allw := kw_3 (k := 210) rfl rfl
theorem k_st_La_line : Cond.static y_La_line ∈ allw := kw_3 (k := 211) rfl rfl
theorem k_m_La_17 : Cond.methodLink R_La 17 y_SR_line ∈ allw := kw_3 (k := 213) rfl rfl
theorem k_im_SR_line : Cond.instanceMethod y_SR_line ∈ allw := kw_3 (k := 214) rfl rfl
theorem k_se_SR_line : Cond.selects R_SR y_SR_line y_SR_line ∈ allw := kw_3 (k := 215) rfl rfl
theorem k_cd_SR_line : Cond.code y_SR_line b_SR_line 3 (some .int) ∈ allw := kw_3 (k := 216) rfl rfl
theorem k_m_SR_89 : Cond.methodLink R_SR 89 y_Path_takes ∈ allw := kw_3 (k := 217) rfl rfl
theorem k_im_Path_takes : Cond.instanceMethod y_Path_takes ∈ allw := kw_3 (k := 218) rfl rfl
theorem k_se_Path_takes : Cond.selects R_Path y_Path_takes y_Path_takes ∈ allw := kw_3 (k := 219) rfl rfl
theorem k_cd_Path_takes : Cond.code y_Path_takes b_Path_takes 2 (some .boolean) ∈ allw := kw_3 (k := 220) rfl rfl
theorem k_m_Path_55 : Cond.methodLink R_Path 55 y_Path_isOpen ∈ allw := kw_3 (k := 221) rfl rfl
theorem k_im_Path_isOpen : Cond.instanceMethod y_Path_isOpen ∈ allw := kw_3 (k := 222) rfl rfl
theorem k_se_Path_isOpen : Cond.selects R_Path y_Path_isOpen y_Path_isOpen ∈ allw := kw_3 (k := 223) rfl rfl
theorem k_cd_Path_isOpen : Cond.code y_Path_isOpen b_Path_isOpen 1 (some .boolean) ∈ allw := kw_3 (k := 224) rfl rfl
theorem k_m_SR_94 : Cond.methodLink R_SR 94 y_Path_put ∈ allw := kw_3 (k := 226) rfl rfl
theorem k_m_La_70 : Cond.methodLink R_La 70 y_La_control ∈ allw := kw_3 (k := 227) rfl rfl
theorem k_st_La_control : Cond.static y_La_control ∈ allw := kw_3 (k := 228) rfl rfl
theorem k_m_La_20 : Cond.methodLink R_La 20 y_SR_control ∈ allw := kw_3 (k := 230) rfl rfl
theorem k_im_SR_control : Cond.instanceMethod y_SR_control ∈ allw := kw_3 (k := 231) rfl rfl
theorem k_se_SR_control : Cond.selects R_SR y_SR_control y_SR_control ∈ allw := kw_3 (k := 232) rfl rfl
theorem k_cd_SR_control : Cond.code y_SR_control b_SR_control 5 none ∈ allw := kw_3 (k := 233) rfl rfl
theorem k_m_La_74 : Cond.methodLink R_La 74 y_La_curve ∈ allw := kw_3 (k := 234) rfl rfl
theorem k_st_La_curve : Cond.static y_La_curve ∈ allw := kw_3 (k := 235) rfl rfl
theorem k_m_La_24 : Cond.methodLink R_La 24 y_SR_curve ∈ allw := kw_3 (k := 237) rfl rfl
theorem k_im_SR_curve : Cond.instanceMethod y_SR_curve ∈ allw := kw_3 (k := 238) rfl rfl
theorem k_se_SR_curve : Cond.selects R_SR y_SR_curve y_SR_curve ∈ allw := kw_3 (k := 239) rfl rfl
theorem k_cd_SR_curve : Cond.code y_SR_curve b_SR_curve 3 (some .int) ∈ allw := kw_4 (k := 0) rfl rfl
theorem k_m_SR_109 : Cond.methodLink R_SR 109 y_Path_bend ∈ allw := kw_4 (k := 1) rfl rfl
theorem k_im_Path_bend : Cond.instanceMethod y_Path_bend ∈ allw := kw_4 (k := 2) rfl rfl
theorem k_se_Path_bend : Cond.selects R_Path y_Path_bend y_Path_bend ∈ allw := kw_4 (k := 3) rfl rfl
theorem k_cd_Path_bend : Cond.code y_Path_bend b_Path_bend 10 none ∈ allw := kw_4 (k := 4) rfl rfl
theorem k_m_Path_48 : Cond.methodLink R_Path 48 y_Path_between ∈ allw := kw_4 (k := 5) rfl rfl
theorem k_st_Path_between : Cond.static y_Path_between ∈ allw := kw_4 (k := 6) rfl rfl
theorem k_cd_Path_between : Cond.code y_Path_between b_Path_between 7 (some .int) ∈ allw := kw_4 (k := 7) rfl rfl
theorem k_m_Path_52 : Cond.methodLink R_Path 52 y_Math_floorDiv_III ∈ allw := kw_4 (k := 8) rfl rfl
theorem k_st_Math_floorDiv_III : Cond.static y_Math_floorDiv_III ∈ allw := kw_4 (k := 9) rfl rfl
theorem k_cd_Math_floorDiv_III : Cond.code y_Math_floorDiv_III b_Math_floorDiv_III 3 (some .int) ∈ allw := kw_4 (k := 10) rfl rfl
theorem k_m_La_77 : Cond.methodLink R_La 77 y_La_close ∈ allw := kw_4 (k := 11) rfl rfl
theorem k_st_La_close : Cond.static y_La_close ∈ allw := kw_4 (k := 12) rfl rfl
theorem k_m_La_27 : Cond.methodLink R_La 27 y_SR_close ∈ allw := kw_4 (k := 14) rfl rfl
theorem k_im_SR_close : Cond.instanceMethod y_SR_close ∈ allw := kw_4 (k := 15) rfl rfl
theorem k_se_SR_close : Cond.selects R_SR y_SR_close y_SR_close ∈ allw := kw_4 (k := 16) rfl rfl
theorem k_cd_SR_close : Cond.code y_SR_close b_SR_close 1 (some .int) ∈ allw := kw_4 (k := 17) rfl rfl
theorem k_m_SR_113 : Cond.methodLink R_SR 113 y_Path_isOpen ∈ allw := kw_4 (k := 18) rfl rfl
theorem k_m_SR_119 : Cond.methodLink R_SR 119 y_Path_shutLast ∈ allw := kw_4 (k := 20) rfl rfl
theorem k_im_Path_shutLast : Cond.instanceMethod y_Path_shutLast ∈ allw := kw_4 (k := 21) rfl rfl
theorem k_se_Path_shutLast : Cond.selects R_Path y_Path_shutLast y_Path_shutLast ∈ allw := kw_4 (k := 22) rfl rfl
theorem k_cd_Path_shutLast : Cond.code y_Path_shutLast b_Path_shutLast 1 none ∈ allw := kw_4 (k := 23) rfl rfl
theorem k_m_La_85 : Cond.methodLink R_La 85 y_La_pen ∈ allw := kw_4 (k := 24) rfl rfl
theorem k_st_La_pen : Cond.static y_La_pen ∈ allw := kw_4 (k := 25) rfl rfl
theorem k_m_La_31 : Cond.methodLink R_La 31 y_SR_pen ∈ allw := kw_4 (k := 27) rfl rfl
theorem k_im_SR_pen : Cond.instanceMethod y_SR_pen ∈ allw := kw_4 (k := 28) rfl rfl
theorem k_se_SR_pen : Cond.selects R_SR y_SR_pen y_SR_pen ∈ allw := kw_4 (k := 29) rfl rfl
theorem k_cd_SR_pen : Cond.code y_SR_pen b_SR_pen 5 none ∈ allw := kw_4 (k := 30) rfl rfl
theorem k_m_SR_130 : Cond.methodLink R_SR 130 y_Pen_shape ∈ allw := kw_4 (k := 32) rfl rfl
theorem k_im_Pen_shape : Cond.instanceMethod y_Pen_shape ∈ allw := kw_4 (k := 33) rfl rfl
theorem k_se_Pen_shape : Cond.selects R_Pen y_Pen_shape y_Pen_shape ∈ allw := kw_4 (k := 34) rfl rfl
theorem k_cd_Pen_shape : Cond.code y_Pen_shape b_Pen_shape 5 none ∈ allw := kw_4 (k := 35) rfl rfl
theorem k_m_La_88 : Cond.methodLink R_La 88 y_La_dash ∈ allw := kw_4 (k := 36) rfl rfl
theorem k_st_La_dash : Cond.static y_La_dash ∈ allw := kw_4 (k := 37) rfl rfl
theorem k_m_La_34 : Cond.methodLink R_La 34 y_SR_dash ∈ allw := kw_4 (k := 39) rfl rfl
theorem k_im_SR_dash : Cond.instanceMethod y_SR_dash ∈ allw := kw_4 (k := 40) rfl rfl
theorem k_se_SR_dash : Cond.selects R_SR y_SR_dash y_SR_dash ∈ allw := kw_4 (k := 41) rfl rfl
theorem k_cd_SR_dash : Cond.code y_SR_dash b_SR_dash 2 (some .int) ∈ allw := kw_4 (k := 42) rfl rfl
theorem k_m_SR_141 : Cond.methodLink R_SR 141 y_Pen_addDash ∈ allw := kw_4 (k := 45) rfl rfl
theorem k_im_Pen_addDash : Cond.instanceMethod y_Pen_addDash ∈ allw := kw_4 (k := 46) rfl rfl
theorem k_se_Pen_addDash : Cond.selects R_Pen y_Pen_addDash y_Pen_addDash ∈ allw := kw_4 (k := 47) rfl rfl
theorem k_cd_Pen_addDash : Cond.code y_Pen_addDash b_Pen_addDash 2 none ∈ allw := kw_4 (k := 48) rfl rfl
theorem k_m_La_92 : Cond.methodLink R_La 92 y_La_plain ∈ allw := kw_4 (k := 49) rfl rfl
theorem k_st_La_plain : Cond.static y_La_plain ∈ allw := kw_4 (k := 50) rfl rfl
theorem k_m_La_38 : Cond.methodLink R_La 38 y_SR_plain ∈ allw := kw_4 (k := 52) rfl rfl
theorem k_im_SR_plain : Cond.instanceMethod y_SR_plain ∈ allw := kw_4 (k := 53) rfl rfl
theorem k_se_SR_plain : Cond.selects R_SR y_SR_plain y_SR_plain ∈ allw := kw_4 (k := 54) rfl rfl
theorem k_cd_SR_plain : Cond.code y_SR_plain b_SR_plain 3 (some .int) ∈ allw := kw_4 (k := 55) rfl rfl
theorem k_k_SR_145 : Cond.constant R_SR 145 (65535) ∈ allw := kw_4 (k := 56) rfl rfl
theorem k_m_SR_148 : Cond.methodLink R_SR 148 y_Pen_dropDashes ∈ allw := kw_4 (k := 58) rfl rfl
theorem k_im_Pen_dropDashes : Cond.instanceMethod y_Pen_dropDashes ∈ allw := kw_4 (k := 59) rfl rfl
theorem k_se_Pen_dropDashes : Cond.selects R_Pen y_Pen_dropDashes y_Pen_dropDashes ∈ allw := kw_4 (k := 60) rfl rfl
theorem k_cd_Pen_dropDashes : Cond.code y_Pen_dropDashes b_Pen_dropDashes 2 none ∈ allw := kw_4 (k := 61) rfl rfl
theorem k_m_La_99 : Cond.methodLink R_La 99 y_La_has ∈ allw := kw_4 (k := 62) rfl rfl
theorem k_st_La_has : Cond.static y_La_has ∈ allw := kw_4 (k := 63) rfl rfl
theorem k_m_La_41 : Cond.methodLink R_La 41 y_SR_has ∈ allw := kw_4 (k := 65) rfl rfl
theorem k_im_SR_has : Cond.instanceMethod y_SR_has ∈ allw := kw_4 (k := 66) rfl rfl
theorem k_se_SR_has : Cond.selects R_SR y_SR_has y_SR_has ∈ allw := kw_4 (k := 67) rfl rfl
theorem k_cd_SR_has : Cond.code y_SR_has b_SR_has 3 (some .boolean) ∈ allw := kw_4 (k := 68) rfl rfl
theorem k_m_La_102 : Cond.methodLink R_La 102 y_La_row ∈ allw := kw_4 (k := 69) rfl rfl
theorem k_st_La_row : Cond.static y_La_row ∈ allw := kw_4 (k := 70) rfl rfl
theorem k_c_La_49 : Cond.classLink R_La 49 "java/lang/IndexOutOfBoundsException" ∈ allw := kw_4 (k := 72) rfl rfl
theorem k_m_La_45 : Cond.methodLink R_La 45 y_SR_row ∈ allw := kw_4 (k := 73) rfl rfl
theorem k_im_SR_row : Cond.instanceMethod y_SR_row ∈ allw := kw_4 (k := 74) rfl rfl
theorem k_se_SR_row : Cond.selects R_SR y_SR_row y_SR_row ∈ allw := kw_4 (k := 75) rfl rfl
theorem k_cd_SR_row : Cond.code y_SR_row b_SR_row 2 (some .long) ∈ allw := kw_4 (k := 76) rfl rfl
theorem k_m_SR_182 : Cond.methodLink R_SR 182 y_SR_isInPicture ∈ allw := kw_4 (k := 77) rfl rfl
theorem k_st_SR_isInPicture : Cond.static y_SR_isInPicture ∈ allw := kw_4 (k := 78) rfl rfl
theorem k_cd_SR_isInPicture : Cond.code y_SR_isInPicture b_SR_isInPicture 1 (some .boolean) ∈ allw := kw_4 (k := 79) rfl rfl
theorem k_c_SR_185 : Cond.classLink R_SR 185 "java/lang/IndexOutOfBoundsException" ∈ allw := kw_4 (k := 80) rfl rfl
theorem k_m_SR_194 : Cond.methodLink R_SR 194 y_SR_bottom ∈ allw := kw_4 (k := 96) rfl rfl
theorem k_st_SR_bottom : Cond.static y_SR_bottom ∈ allw := kw_4 (k := 97) rfl rfl
theorem k_cd_SR_bottom : Cond.code y_SR_bottom b_SR_bottom 1 (some .int) ∈ allw := kw_4 (k := 98) rfl rfl
theorem k_m_La_105 : Cond.methodLink R_La 105 y_La_share ∈ allw := kw_4 (k := 99) rfl rfl
theorem k_st_La_share : Cond.static y_La_share ∈ allw := kw_4 (k := 100) rfl rfl
theorem k_m_La_51 : Cond.methodLink R_La 51 y_SR_share ∈ allw := kw_4 (k := 102) rfl rfl
theorem k_im_SR_share : Cond.instanceMethod y_SR_share ∈ allw := kw_4 (k := 103) rfl rfl
theorem k_se_SR_share : Cond.selects R_SR y_SR_share y_SR_share ∈ allw := kw_4 (k := 104) rfl rfl
theorem k_cd_SR_share : Cond.code y_SR_share b_SR_share 5 (some .int) ∈ allw := kw_4 (k := 105) rfl rfl
theorem k_c_La_55 : Cond.classLink R_La 55 "StrokeRasterModel" ∈ allw := kw_4 (k := 107) rfl rfl
theorem k_ib_Mo : Cond.instantiable R_Mo 38 ∈ allw := kw_4 (k := 108) rfl rfl
theorem k_m_La_57 : Cond.methodLink R_La 57 y_Mo_init ∈ allw := kw_4 (k := 109) rfl rfl
theorem k_im_Mo_init : Cond.instanceMethod y_Mo_init ∈ allw := kw_4 (k := 110) rfl rfl
theorem k_cd_Mo_init : Cond.code y_Mo_init b_Mo_init 1 none ∈ allw := kw_4 (k := 111) rfl rfl
theorem k_m_Mo_1 : Cond.methodLink R_Mo 1 objectInit ∈ allw := kw_4 (k := 112) rfl rfl
theorem k_f_Mo_82 : Cond.fieldLink R_Mo 82 "StrokeRasterModel" "fault" "I" ∈ allw := kw_4 (k := 113) rfl rfl
theorem k_f_Mo_89 : Cond.fieldLink R_Mo 89 "StrokeRasterModel" "points" "I" ∈ allw := kw_4 (k := 114) rfl rfl
theorem k_f_Mo_7 : Cond.fieldLink R_Mo 7 "StrokeRasterModel" "xs" "[I" ∈ allw := kw_4 (k := 115) rfl rfl
theorem k_f_Mo_13 : Cond.fieldLink R_Mo 13 "StrokeRasterModel" "ys" "[I" ∈ allw := kw_4 (k := 116) rfl rfl
theorem k_f_Mo_92 : Cond.fieldLink R_Mo 92 "StrokeRasterModel" "subpaths" "I" ∈ allw := kw_4 (k := 117) rfl rfl
theorem k_f_Mo_16 : Cond.fieldLink R_Mo 16 "StrokeRasterModel" "begins" "[I" ∈ allw := kw_4 (k := 118) rfl rfl
theorem k_f_Mo_19 : Cond.fieldLink R_Mo 19 "StrokeRasterModel" "closed" "[Z" ∈ allw := kw_4 (k := 119) rfl rfl
theorem k_f_Mo_23 : Cond.fieldLink R_Mo 23 "StrokeRasterModel" "goes" "[Z" ∈ allw := kw_4 (k := 120) rfl rfl
theorem k_f_Mo_26 : Cond.fieldLink R_Mo 26 "StrokeRasterModel" "controls" "[I" ∈ allw := kw_4 (k := 121) rfl rfl
theorem k_f_Mo_29 : Cond.fieldLink R_Mo 29 "StrokeRasterModel" "width" "I" ∈ allw := kw_4 (k := 122) rfl rfl
theorem k_f_Mo_119 : Cond.fieldLink R_Mo 119 "StrokeRasterModel" "caps" "I" ∈ allw := kw_4 (k := 123) rfl rfl
theorem k_f_Mo_122 : Cond.fieldLink R_Mo 122 "StrokeRasterModel" "joins" "I" ∈ allw := kw_4 (k := 124) rfl rfl
theorem k_f_Mo_33 : Cond.fieldLink R_Mo 33 "StrokeRasterModel" "limit" "I" ∈ allw := kw_4 (k := 125) rfl rfl
theorem k_f_Mo_125 : Cond.fieldLink R_Mo 125 "StrokeRasterModel" "dashes" "I" ∈ allw := kw_4 (k := 126) rfl rfl
theorem k_f_Mo_36 : Cond.fieldLink R_Mo 36 "StrokeRasterModel" "lengths" "[I" ∈ allw := kw_4 (k := 127) rfl rfl
theorem k_f_Mo_129 : Cond.fieldLink R_Mo 129 "StrokeRasterModel" "phase" "I" ∈ allw := kw_4 (k := 128) rfl rfl
theorem k_f_Mo_157 : Cond.fieldLink R_Mo 157 "StrokeRasterModel" "left" "I" ∈ allw := kw_4 (k := 129) rfl rfl
theorem k_f_Mo_39 : Cond.fieldLink R_Mo 39 "StrokeRasterModel" "lx" "[I" ∈ allw := kw_4 (k := 130) rfl rfl
theorem k_f_Mo_42 : Cond.fieldLink R_Mo 42 "StrokeRasterModel" "ly" "[I" ∈ allw := kw_4 (k := 131) rfl rfl
theorem k_f_Mo_154 : Cond.fieldLink R_Mo 154 "StrokeRasterModel" "pieces" "I" ∈ allw := kw_4 (k := 132) rfl rfl
theorem k_f_Mo_45 : Cond.fieldLink R_Mo 45 "StrokeRasterModel" "ax" "[I" ∈ allw := kw_4 (k := 133) rfl rfl
theorem k_f_Mo_48 : Cond.fieldLink R_Mo 48 "StrokeRasterModel" "ay" "[I" ∈ allw := kw_4 (k := 134) rfl rfl
theorem k_f_Mo_51 : Cond.fieldLink R_Mo 51 "StrokeRasterModel" "bx" "[I" ∈ allw := kw_4 (k := 135) rfl rfl
theorem k_f_Mo_54 : Cond.fieldLink R_Mo 54 "StrokeRasterModel" "by" "[I" ∈ allw := kw_4 (k := 136) rfl rfl
theorem k_f_Mo_57 : Cond.fieldLink R_Mo 57 "StrokeRasterModel" "ox" "[I" ∈ allw := kw_4 (k := 137) rfl rfl
theorem k_f_Mo_60 : Cond.fieldLink R_Mo 60 "StrokeRasterModel" "oy" "[I" ∈ allw := kw_4 (k := 138) rfl rfl
theorem k_f_Mo_63 : Cond.fieldLink R_Mo 63 "StrokeRasterModel" "isFirst" "[Z" ∈ allw := kw_4 (k := 139) rfl rfl
theorem k_f_Mo_66 : Cond.fieldLink R_Mo 66 "StrokeRasterModel" "isLast" "[Z" ∈ allw := kw_4 (k := 140) rfl rfl
theorem k_f_Mo_69 : Cond.fieldLink R_Mo 69 "StrokeRasterModel" "closesAt" "[I" ∈ allw := kw_4 (k := 141) rfl rfl
theorem k_f_Mo_72 : Cond.fieldLink R_Mo 72 "StrokeRasterModel" "isDot" "[Z" ∈ allw := kw_4 (k := 142) rfl rfl
theorem k_f_Mo_170 : Cond.fieldLink R_Mo 170 "StrokeRasterModel" "dash" "I" ∈ allw := kw_4 (k := 143) rfl rfl
theorem k_f_Mo_173 : Cond.fieldLink R_Mo 173 "StrokeRasterModel" "on" "Z" ∈ allw := kw_4 (k := 144) rfl rfl
theorem k_f_Mo_179 : Cond.fieldLink R_Mo 179 "StrokeRasterModel" "rest" "J" ∈ allw := kw_4 (k := 145) rfl rfl
theorem k_f_Mo_183 : Cond.fieldLink R_Mo 183 "StrokeRasterModel" "inChain" "Z" ∈ allw := kw_4 (k := 146) rfl rfl
theorem k_f_Mo_146 : Cond.fieldLink R_Mo 146 "StrokeRasterModel" "offX" "I" ∈ allw := kw_4 (k := 147) rfl rfl
theorem k_f_Mo_149 : Cond.fieldLink R_Mo 149 "StrokeRasterModel" "offY" "I" ∈ allw := kw_4 (k := 148) rfl rfl
theorem k_f_Mo_75 : Cond.fieldLink R_Mo 75 "StrokeRasterModel" "cornerX" "[J" ∈ allw := kw_4 (k := 149) rfl rfl
theorem k_f_Mo_79 : Cond.fieldLink R_Mo 79 "StrokeRasterModel" "cornerY" "[J" ∈ allw := kw_4 (k := 150) rfl rfl
theorem k_m_La_64 : Cond.methodLink R_La 64 y_Mo_thrown ∈ allw := kw_4 (k := 228) rfl rfl
theorem k_im_Mo_thrown : Cond.instanceMethod y_Mo_thrown ∈ allw := kw_4 (k := 229) rfl rfl
theorem k_se_Mo_thrown : Cond.selects R_Mo y_Mo_thrown y_Mo_thrown ∈ allw := kw_4 (k := 230) rfl rfl
theorem k_cd_Mo_thrown : Cond.code y_Mo_thrown b_Mo_thrown 1 (some .int) ∈ allw := kw_4 (k := 231) rfl rfl
theorem k_m_La_63 : Cond.methodLink R_La 63 y_Mo_move ∈ allw := kw_4 (k := 232) rfl rfl
theorem k_im_Mo_move : Cond.instanceMethod y_Mo_move ∈ allw := kw_4 (k := 233) rfl rfl
theorem k_se_Mo_move : Cond.selects R_Mo y_Mo_move y_Mo_move ∈ allw := kw_4 (k := 234) rfl rfl
theorem k_cd_Mo_move : Cond.code y_Mo_move b_Mo_move 3 (some .int) ∈ allw := kw_4 (k := 235) rfl rfl
theorem k_m_Mo_95 : Cond.methodLink R_Mo 95 y_Mo_isPoint ∈ allw := kw_4 (k := 236) rfl rfl
theorem k_st_Mo_isPoint : Cond.static y_Mo_isPoint ∈ allw := kw_4 (k := 237) rfl rfl
theorem k_cd_Mo_isPoint : Cond.code y_Mo_isPoint b_Mo_isPoint 2 (some .boolean) ∈ allw := kw_4 (k := 238) rfl rfl
theorem k_m_Mo_85 : Cond.methodLink R_Mo 85 y_Mo_isIn ∈ allw := kw_4 (k := 239) rfl rfl
theorem k_st_Mo_isIn : Cond.static y_Mo_isIn ∈ allw := kw_5 (k := 0) rfl rfl
theorem k_cd_Mo_isIn : Cond.code y_Mo_isIn b_Mo_isIn 3 (some .boolean) ∈ allw := kw_5 (k := 1) rfl rfl
theorem k_m_Mo_99 : Cond.methodLink R_Mo 99 y_Mo_refused ∈ allw := kw_5 (k := 2) rfl rfl
theorem k_im_Mo_refused : Cond.instanceMethod y_Mo_refused ∈ allw := kw_5 (k := 4) rfl rfl
theorem k_cd_Mo_refused : Cond.code y_Mo_refused b_Mo_refused 2 (some .boolean) ∈ allw := kw_5 (k := 5) rfl rfl
theorem k_m_Mo_103 : Cond.methodLink R_Mo 103 y_Mo_add ∈ allw := kw_5 (k := 6) rfl rfl
theorem k_im_Mo_add : Cond.instanceMethod y_Mo_add ∈ allw := kw_5 (k := 8) rfl rfl
theorem k_cd_Mo_add : Cond.code y_Mo_add b_Mo_add 3 none ∈ allw := kw_5 (k := 9) rfl rfl
theorem k_m_La_69 : Cond.methodLink R_La 69 y_Mo_line ∈ allw := kw_5 (k := 10) rfl rfl
theorem k_im_Mo_line : Cond.instanceMethod y_Mo_line ∈ allw := kw_5 (k := 11) rfl rfl
theorem k_se_Mo_line : Cond.selects R_Mo y_Mo_line y_Mo_line ∈ allw := kw_5 (k := 12) rfl rfl
theorem k_cd_Mo_line : Cond.code y_Mo_line b_Mo_line 3 (some .int) ∈ allw := kw_5 (k := 13) rfl rfl
theorem k_m_Mo_107 : Cond.methodLink R_Mo 107 y_Mo_isOpen ∈ allw := kw_5 (k := 14) rfl rfl
theorem k_im_Mo_isOpen : Cond.instanceMethod y_Mo_isOpen ∈ allw := kw_5 (k := 16) rfl rfl
theorem k_cd_Mo_isOpen : Cond.code y_Mo_isOpen b_Mo_isOpen 1 (some .boolean) ∈ allw := kw_5 (k := 17) rfl rfl
theorem k_m_La_73 : Cond.methodLink R_La 73 y_Mo_control ∈ allw := kw_5 (k := 18) rfl rfl
theorem k_im_Mo_control : Cond.instanceMethod y_Mo_control ∈ allw := kw_5 (k := 19) rfl rfl
theorem k_se_Mo_control : Cond.selects R_Mo y_Mo_control y_Mo_control ∈ allw := kw_5 (k := 20) rfl rfl
theorem k_cd_Mo_control : Cond.code y_Mo_control b_Mo_control 5 none ∈ allw := kw_5 (k := 21) rfl rfl
theorem k_m_La_76 : Cond.methodLink R_La 76 y_Mo_curve ∈ allw := kw_5 (k := 22) rfl rfl
theorem k_im_Mo_curve : Cond.instanceMethod y_Mo_curve ∈ allw := kw_5 (k := 23) rfl rfl
theorem k_se_Mo_curve : Cond.selects R_Mo y_Mo_curve y_Mo_curve ∈ allw := kw_5 (k := 24) rfl rfl
theorem k_cd_Mo_curve : Cond.code y_Mo_curve b_Mo_curve 6 (some .int) ∈ allw := kw_5 (k := 25) rfl rfl
theorem k_m_Mo_111 : Cond.methodLink R_Mo 111 y_Mo_along ∈ allw := kw_5 (k := 26) rfl rfl
theorem k_st_Mo_along : Cond.static y_Mo_along ∈ allw := kw_5 (k := 27) rfl rfl
theorem k_cd_Mo_along : Cond.code y_Mo_along b_Mo_along 7 (some .int) ∈ allw := kw_5 (k := 28) rfl rfl
theorem k_m_La_80 : Cond.methodLink R_La 80 y_Mo_close ∈ allw := kw_5 (k := 29) rfl rfl
theorem k_im_Mo_close : Cond.instanceMethod y_Mo_close ∈ allw := kw_5 (k := 30) rfl rfl
theorem k_se_Mo_close : Cond.selects R_Mo y_Mo_close y_Mo_close ∈ allw := kw_5 (k := 31) rfl rfl
theorem k_cd_Mo_close : Cond.code y_Mo_close b_Mo_close 1 (some .int) ∈ allw := kw_5 (k := 32) rfl rfl
theorem k_m_Mo_115 : Cond.methodLink R_Mo 115 y_Mo_closedOnes ∈ allw := kw_5 (k := 33) rfl rfl
theorem k_im_Mo_closedOnes : Cond.instanceMethod y_Mo_closedOnes ∈ allw := kw_5 (k := 35) rfl rfl
theorem k_cd_Mo_closedOnes : Cond.code y_Mo_closedOnes b_Mo_closedOnes 3 (some .int) ∈ allw := kw_5 (k := 36) rfl rfl
theorem k_m_La_84 : Cond.methodLink R_La 84 y_Mo_clear ∈ allw := kw_5 (k := 37) rfl rfl
theorem k_im_Mo_clear : Cond.instanceMethod y_Mo_clear ∈ allw := kw_5 (k := 38) rfl rfl
theorem k_se_Mo_clear : Cond.selects R_Mo y_Mo_clear y_Mo_clear ∈ allw := kw_5 (k := 39) rfl rfl
theorem k_cd_Mo_clear : Cond.code y_Mo_clear b_Mo_clear 2 (some .int) ∈ allw := kw_5 (k := 40) rfl rfl
theorem k_m_La_87 : Cond.methodLink R_La 87 y_Mo_pen ∈ allw := kw_5 (k := 41) rfl rfl
theorem k_im_Mo_pen : Cond.instanceMethod y_Mo_pen ∈ allw := kw_5 (k := 42) rfl rfl
theorem k_se_Mo_pen : Cond.selects R_Mo y_Mo_pen y_Mo_pen ∈ allw := kw_5 (k := 43) rfl rfl
theorem k_cd_Mo_pen : Cond.code y_Mo_pen b_Mo_pen 6 none ∈ allw := kw_5 (k := 44) rfl rfl
theorem k_m_La_91 : Cond.methodLink R_La 91 y_Mo_dash ∈ allw := kw_5 (k := 45) rfl rfl
theorem k_im_Mo_dash : Cond.instanceMethod y_Mo_dash ∈ allw := kw_5 (k := 46) rfl rfl
theorem k_se_Mo_dash : Cond.selects R_Mo y_Mo_dash y_Mo_dash ∈ allw := kw_5 (k := 47) rfl rfl
theorem k_cd_Mo_dash : Cond.code y_Mo_dash b_Mo_dash 2 (some .int) ∈ allw := kw_5 (k := 48) rfl rfl
theorem k_m_La_94 : Cond.methodLink R_La 94 y_Mo_plain ∈ allw := kw_5 (k := 49) rfl rfl
theorem k_im_Mo_plain : Cond.instanceMethod y_Mo_plain ∈ allw := kw_5 (k := 50) rfl rfl
theorem k_se_Mo_plain : Cond.selects R_Mo y_Mo_plain y_Mo_plain ∈ allw := kw_5 (k := 51) rfl rfl
theorem k_cd_Mo_plain : Cond.code y_Mo_plain b_Mo_plain 3 (some .int) ∈ allw := kw_5 (k := 52) rfl rfl
theorem k_k_Mo_128 : Cond.constant R_Mo 128 (65535) ∈ allw := kw_5 (k := 53) rfl rfl
theorem k_m_La_98 : Cond.methodLink R_La 98 y_Mo_count ∈ allw := kw_5 (k := 54) rfl rfl
theorem k_im_Mo_count : Cond.instanceMethod y_Mo_count ∈ allw := kw_5 (k := 55) rfl rfl
theorem k_se_Mo_count : Cond.selects R_Mo y_Mo_count y_Mo_count ∈ allw := kw_5 (k := 56) rfl rfl
theorem k_cd_Mo_count : Cond.code y_Mo_count b_Mo_count 2 (some .int) ∈ allw := kw_5 (k := 57) rfl rfl
theorem k_m_Mo_264 : Cond.methodLink R_Mo 264 y_Mo_findPieces ∈ allw := kw_5 (k := 58) rfl rfl
theorem k_im_Mo_findPieces : Cond.instanceMethod y_Mo_findPieces ∈ allw := kw_5 (k := 60) rfl rfl
theorem k_cd_Mo_findPieces : Cond.code y_Mo_findPieces b_Mo_findPieces 3 none ∈ allw := kw_5 (k := 61) rfl rfl
theorem k_m_Mo_212 : Cond.methodLink R_Mo 212 y_Mo_hasDashes ∈ allw := kw_5 (k := 62) rfl rfl
theorem k_im_Mo_hasDashes : Cond.instanceMethod y_Mo_hasDashes ∈ allw := kw_5 (k := 64) rfl rfl
theorem k_cd_Mo_hasDashes : Cond.code y_Mo_hasDashes b_Mo_hasDashes 3 (some .boolean) ∈ allw := kw_5 (k := 65) rfl rfl
theorem k_m_Mo_215 : Cond.methodLink R_Mo 215 y_Mo_leave ∈ allw := kw_5 (k := 66) rfl rfl
theorem k_im_Mo_leave : Cond.instanceMethod y_Mo_leave ∈ allw := kw_5 (k := 68) rfl rfl
theorem k_cd_Mo_leave : Cond.code y_Mo_leave b_Mo_leave 6 none ∈ allw := kw_5 (k := 69) rfl rfl
theorem k_k_Mo_164 : Cond.constantLong R_Mo 164 (16) ∈ allw := kw_5 (k := 70) rfl rfl
theorem k_m_Mo_166 : Cond.methodLink R_Mo 166 y_Mo_piece ∈ allw := kw_5 (k := 71) rfl rfl
theorem k_im_Mo_piece : Cond.instanceMethod y_Mo_piece ∈ allw := kw_5 (k := 73) rfl rfl
theorem k_cd_Mo_piece : Cond.code y_Mo_piece b_Mo_piece 10 none ∈ allw := kw_5 (k := 74) rfl rfl
theorem k_m_Mo_218 : Cond.methodLink R_Mo 218 y_Mo_dashPieces ∈ allw := kw_5 (k := 75) rfl rfl
theorem k_im_Mo_dashPieces : Cond.instanceMethod y_Mo_dashPieces ∈ allw := kw_5 (k := 77) rfl rfl
theorem k_cd_Mo_dashPieces : Cond.code y_Mo_dashPieces b_Mo_dashPieces 4 none ∈ allw := kw_5 (k := 78) rfl rfl
theorem k_m_Mo_205 : Cond.methodLink R_Mo 205 y_Mo_firstDash ∈ allw := kw_5 (k := 79) rfl rfl
theorem k_im_Mo_firstDash : Cond.instanceMethod y_Mo_firstDash ∈ allw := kw_5 (k := 81) rfl rfl
theorem k_cd_Mo_firstDash : Cond.code y_Mo_firstDash b_Mo_firstDash 3 none ∈ allw := kw_5 (k := 82) rfl rfl
theorem k_k_Mo_177 : Cond.constantLong R_Mo 177 (256) ∈ allw := kw_5 (k := 83) rfl rfl
theorem k_m_Mo_208 : Cond.methodLink R_Mo 208 y_Mo_dashSegment ∈ allw := kw_5 (k := 84) rfl rfl
theorem k_im_Mo_dashSegment : Cond.instanceMethod y_Mo_dashSegment ∈ allw := kw_5 (k := 86) rfl rfl
theorem k_cd_Mo_dashSegment : Cond.code y_Mo_dashSegment b_Mo_dashSegment 12 none ∈ allw := kw_5 (k := 87) rfl rfl
theorem k_m_Mo_160 : Cond.methodLink R_Mo 160 y_Mo_offset ∈ allw := kw_5 (k := 88) rfl rfl
theorem k_im_Mo_offset : Cond.instanceMethod y_Mo_offset ∈ allw := kw_5 (k := 90) rfl rfl
theorem k_cd_Mo_offset : Cond.code y_Mo_offset b_Mo_offset 9 none ∈ allw := kw_5 (k := 91) rfl rfl
theorem k_k_Mo_136 : Cond.constantLong R_Mo 136 (2) ∈ allw := kw_5 (k := 92) rfl rfl
theorem k_m_Mo_138 : Cond.methodLink R_Mo 138 y_Mo_half ∈ allw := kw_5 (k := 93) rfl rfl
theorem k_im_Mo_half : Cond.instanceMethod y_Mo_half ∈ allw := kw_5 (k := 95) rfl rfl
theorem k_cd_Mo_half : Cond.code y_Mo_half b_Mo_half 1 (some .long) ∈ allw := kw_5 (k := 96) rfl rfl
theorem k_k_Mo_132 : Cond.constantLong R_Mo 132 (8) ∈ allw := kw_5 (k := 97) rfl rfl
theorem k_m_Mo_142 : Cond.methodLink R_Mo 142 y_Mo_nearest ∈ allw := kw_5 (k := 98) rfl rfl
theorem k_st_Mo_nearest : Cond.static y_Mo_nearest ∈ allw := kw_5 (k := 99) rfl rfl
theorem k_cd_Mo_nearest : Cond.code y_Mo_nearest b_Mo_nearest 14 (some .int) ∈ allw := kw_5 (k := 100) rfl rfl
theorem k_k_Mo_134 : Cond.constantLong R_Mo 134 (40000) ∈ allw := kw_5 (k := 101) rfl rfl
theorem k_k_Mo_192 : Cond.constantLong R_Mo 192 (65536) ∈ allw := kw_5 (k := 102) rfl rfl
theorem k_m_Mo_194 : Cond.methodLink R_Mo 194 y_Mo_root ∈ allw := kw_5 (k := 103) rfl rfl
theorem k_st_Mo_root : Cond.static y_Mo_root ∈ allw := kw_5 (k := 104) rfl rfl
theorem k_cd_Mo_root : Cond.code y_Mo_root b_Mo_root 8 (some .long) ∈ allw := kw_5 (k := 105) rfl rfl
theorem k_k_Mo_152 : Cond.constantLong R_Mo 152 (16777216) ∈ allw := kw_5 (k := 106) rfl rfl
theorem k_m_Mo_198 : Cond.methodLink R_Mo 198 y_Mo_dashPiece ∈ allw := kw_5 (k := 107) rfl rfl
theorem k_im_Mo_dashPiece : Cond.instanceMethod y_Mo_dashPiece ∈ allw := kw_5 (k := 109) rfl rfl
theorem k_cd_Mo_dashPiece : Cond.code y_Mo_dashPiece b_Mo_dashPiece 13 none ∈ allw := kw_5 (k := 110) rfl rfl
theorem k_k_Mo_186 : Cond.constantLong R_Mo 186 (32) ∈ allw := kw_5 (k := 111) rfl rfl
theorem k_m_Mo_188 : Cond.methodLink R_Mo 188 y_Mo_floor ∈ allw := kw_5 (k := 112) rfl rfl
theorem k_st_Mo_floor : Cond.static y_Mo_floor ∈ allw := kw_5 (k := 113) rfl rfl
theorem k_cd_Mo_floor : Cond.code y_Mo_floor b_Mo_floor 6 (some .long) ∈ allw := kw_5 (k := 114) rfl rfl
theorem k_m_Mo_202 : Cond.methodLink R_Mo 202 y_Mo_endChain ∈ allw := kw_5 (k := 115) rfl rfl
theorem k_im_Mo_endChain : Cond.instanceMethod y_Mo_endChain ∈ allw := kw_5 (k := 117) rfl rfl
theorem k_cd_Mo_endChain : Cond.code y_Mo_endChain b_Mo_endChain 1 none ∈ allw := kw_5 (k := 118) rfl rfl
theorem k_m_Mo_221 : Cond.methodLink R_Mo 221 y_Mo_plainPieces ∈ allw := kw_5 (k := 119) rfl rfl
theorem k_im_Mo_plainPieces : Cond.instanceMethod y_Mo_plainPieces ∈ allw := kw_5 (k := 121) rfl rfl
theorem k_cd_Mo_plainPieces : Cond.code y_Mo_plainPieces b_Mo_plainPieces 6 none ∈ allw := kw_5 (k := 122) rfl rfl
theorem k_m_Mo_267 : Cond.methodLink R_Mo 267 y_Mo_setPixels ∈ allw := kw_5 (k := 123) rfl rfl
theorem k_im_Mo_setPixels : Cond.instanceMethod y_Mo_setPixels ∈ allw := kw_5 (k := 125) rfl rfl
theorem k_cd_Mo_setPixels : Cond.code y_Mo_setPixels b_Mo_setPixels 3 (some .int) ∈ allw := kw_5 (k := 126) rfl rfl
theorem k_m_Mo_261 : Cond.methodLink R_Mo 261 y_Mo_isSet ∈ allw := kw_5 (k := 127) rfl rfl
theorem k_im_Mo_isSet : Cond.instanceMethod y_Mo_isSet ∈ allw := kw_5 (k := 129) rfl rfl
theorem k_cd_Mo_isSet : Cond.code y_Mo_isSet b_Mo_isSet 3 (some .boolean) ∈ allw := kw_5 (k := 130) rfl rfl
theorem k_m_Mo_258 : Cond.methodLink R_Mo 258 y_Mo_covers ∈ allw := kw_5 (k := 131) rfl rfl
theorem k_im_Mo_covers : Cond.instanceMethod y_Mo_covers ∈ allw := kw_5 (k := 133) rfl rfl
theorem k_cd_Mo_covers : Cond.code y_Mo_covers b_Mo_covers 4 (some .boolean) ∈ allw := kw_5 (k := 134) rfl rfl
theorem k_m_Mo_255 : Cond.methodLink R_Mo 255 y_Mo_inPiece ∈ allw := kw_5 (k := 135) rfl rfl
theorem k_im_Mo_inPiece : Cond.instanceMethod y_Mo_inPiece ∈ allw := kw_5 (k := 137) rfl rfl
theorem k_cd_Mo_inPiece : Cond.code y_Mo_inPiece b_Mo_inPiece 7 (some .boolean) ∈ allw := kw_5 (k := 138) rfl rfl
theorem k_m_Mo_236 : Cond.methodLink R_Mo 236 y_Mo_inDisc ∈ allw := kw_5 (k := 139) rfl rfl
theorem k_im_Mo_inDisc : Cond.instanceMethod y_Mo_inDisc ∈ allw := kw_5 (k := 141) rfl rfl
theorem k_cd_Mo_inDisc : Cond.code y_Mo_inDisc b_Mo_inDisc 13 (some .boolean) ∈ allw := kw_5 (k := 142) rfl rfl
theorem k_m_Mo_244 : Cond.methodLink R_Mo 244 y_Mo_inBody ∈ allw := kw_5 (k := 143) rfl rfl
theorem k_im_Mo_inBody : Cond.instanceMethod y_Mo_inBody ∈ allw := kw_5 (k := 145) rfl rfl
theorem k_cd_Mo_inBody : Cond.code y_Mo_inBody b_Mo_inBody 6 (some .boolean) ∈ allw := kw_5 (k := 146) rfl rfl
theorem k_m_Mo_228 : Cond.methodLink R_Mo 228 y_Mo_corner ∈ allw := kw_5 (k := 147) rfl rfl
theorem k_im_Mo_corner : Cond.instanceMethod y_Mo_corner ∈ allw := kw_5 (k := 149) rfl rfl
theorem k_cd_Mo_corner : Cond.code y_Mo_corner b_Mo_corner 6 none ∈ allw := kw_5 (k := 150) rfl rfl
theorem k_m_Mo_232 : Cond.methodLink R_Mo 232 y_Mo_inPolygon ∈ allw := kw_5 (k := 151) rfl rfl
theorem k_im_Mo_inPolygon : Cond.instanceMethod y_Mo_inPolygon ∈ allw := kw_5 (k := 153) rfl rfl
theorem k_cd_Mo_inPolygon : Cond.code y_Mo_inPolygon b_Mo_inPolygon 12 (some .boolean) ∈ allw := kw_5 (k := 154) rfl rfl
theorem k_m_Mo_224 : Cond.methodLink R_Mo 224 y_Mo_cross ∈ allw := kw_5 (k := 155) rfl rfl
theorem k_st_Mo_cross : Cond.static y_Mo_cross ∈ allw := kw_5 (k := 156) rfl rfl
theorem k_cd_Mo_cross : Cond.code y_Mo_cross b_Mo_cross 8 (some .long) ∈ allw := kw_5 (k := 157) rfl rfl
theorem k_m_Mo_247 : Cond.methodLink R_Mo 247 y_Mo_inCap ∈ allw := kw_5 (k := 158) rfl rfl
theorem k_im_Mo_inCap : Cond.instanceMethod y_Mo_inCap ∈ allw := kw_5 (k := 160) rfl rfl
theorem k_cd_Mo_inCap : Cond.code y_Mo_inCap b_Mo_inCap 15 (some .boolean) ∈ allw := kw_5 (k := 161) rfl rfl
theorem k_m_Mo_251 : Cond.methodLink R_Mo 251 y_Mo_inJoin ∈ allw := kw_5 (k := 162) rfl rfl
theorem k_im_Mo_inJoin : Cond.instanceMethod y_Mo_inJoin ∈ allw := kw_5 (k := 164) rfl rfl
theorem k_cd_Mo_inJoin : Cond.code y_Mo_inJoin b_Mo_inJoin 28 (some .boolean) ∈ allw := kw_5 (k := 165) rfl rfl
theorem k_k_Mo_240 : Cond.constantLong R_Mo 240 (-1) ∈ allw := kw_5 (k := 166) rfl rfl
theorem k_k_Mo_242 : Cond.constantLong R_Mo 242 (8192) ∈ allw := kw_5 (k := 167) rfl rfl
theorem k_m_La_101 : Cond.methodLink R_La 101 y_Mo_has ∈ allw := kw_5 (k := 168) rfl rfl
theorem k_im_Mo_has : Cond.instanceMethod y_Mo_has ∈ allw := kw_5 (k := 169) rfl rfl
theorem k_se_Mo_has : Cond.selects R_Mo y_Mo_has y_Mo_has ∈ allw := kw_5 (k := 170) rfl rfl
theorem k_cd_Mo_has : Cond.code y_Mo_has b_Mo_has 4 (some .boolean) ∈ allw := kw_5 (k := 171) rfl rfl
theorem k_m_La_104 : Cond.methodLink R_La 104 y_Mo_row ∈ allw := kw_5 (k := 172) rfl rfl
theorem k_im_Mo_row : Cond.instanceMethod y_Mo_row ∈ allw := kw_5 (k := 173) rfl rfl
theorem k_se_Mo_row : Cond.selects R_Mo y_Mo_row y_Mo_row ∈ allw := kw_5 (k := 174) rfl rfl
theorem k_cd_Mo_row : Cond.code y_Mo_row b_Mo_row 5 (some .long) ∈ allw := kw_5 (k := 175) rfl rfl
theorem k_m_La_107 : Cond.methodLink R_La 107 y_Mo_share ∈ allw := kw_5 (k := 176) rfl rfl
theorem k_im_Mo_share : Cond.instanceMethod y_Mo_share ∈ allw := kw_5 (k := 177) rfl rfl
theorem k_se_Mo_share : Cond.selects R_Mo y_Mo_share y_Mo_share ∈ allw := kw_5 (k := 178) rfl rfl
theorem k_cd_Mo_share : Cond.code y_Mo_share b_Mo_share 5 (some .int) ∈ allw := kw_5 (k := 179) rfl rfl
theorem k_se_SR_forget : Cond.selects R_SR y_SR_forget y_SR_forget ∈ allw := kw_s (q := (y_SR_forget, 12)) (k := 0) rfl
theorem k_se_Walker_passPhase : Cond.selects R_Walker y_Walker_passPhase y_Walker_passPhase ∈ allw := kw_s (q := (y_Walker_passPhase, 17)) (k := 1) rfl
theorem k_se_Walker_dashAfter : Cond.selects R_Walker y_Walker_dashAfter y_Walker_dashAfter ∈ allw := kw_s (q := (y_Walker_dashAfter, 17)) (k := 2) rfl
theorem k_se_Walker_walkSubpath : Cond.selects R_Walker y_Walker_walkSubpath y_Walker_walkSubpath ∈ allw := kw_s (q := (y_Walker_walkSubpath, 17)) (k := 3) rfl
theorem k_se_Walker_takeSegment : Cond.selects R_Walker y_Walker_takeSegment y_Walker_takeSegment ∈ allw := kw_s (q := (y_Walker_takeSegment, 17)) (k := 4) rfl
theorem k_se_Walker_offsetPart : Cond.selects R_Walker y_Walker_offsetPart y_Walker_offsetPart ∈ allw := kw_s (q := (y_Walker_offsetPart, 17)) (k := 5) rfl
theorem k_se_Walker_cutSegment : Cond.selects R_Walker y_Walker_cutSegment y_Walker_cutSegment ∈ allw := kw_s (q := (y_Walker_cutSegment, 17)) (k := 6) rfl
theorem k_se_Walker_addPiece : Cond.selects R_Walker y_Walker_addPiece y_Walker_addPiece ∈ allw := kw_s (q := (y_Walker_addPiece, 17)) (k := 7) rfl
theorem k_se_Walker_fineAt : Cond.selects R_Walker y_Walker_fineAt y_Walker_fineAt ∈ allw := kw_s (q := (y_Walker_fineAt, 17)) (k := 8) rfl
theorem k_se_Pieces_grow : Cond.selects R_Pieces y_Pieces_grow y_Pieces_grow ∈ allw := kw_s (q := (y_Pieces_grow, 11)) (k := 9) rfl
theorem k_se_SR_paintPicture : Cond.selects R_SR y_SR_paintPicture y_SR_paintPicture ∈ allw := kw_s (q := (y_SR_paintPicture, 12)) (k := 10) rfl
theorem k_se_Painter_isNear : Cond.selects R_Painter y_Painter_isNear y_Painter_isNear ∈ allw := kw_s (q := (y_Painter_isNear, 3)) (k := 11) rfl
theorem k_se_Painter_paintBody : Cond.selects R_Painter y_Painter_paintBody y_Painter_paintBody ∈ allw := kw_s (q := (y_Painter_paintBody, 3)) (k := 12) rfl
theorem k_se_Grid_doubledArea : Cond.selects R_Grid y_Grid_doubledArea y_Grid_doubledArea ∈ allw := kw_s (q := (y_Grid_doubledArea, 15)) (k := 13) rfl
theorem k_se_Grid_least : Cond.selects R_Grid y_Grid_least y_Grid_least ∈ allw := kw_s (q := (y_Grid_least, 15)) (k := 14) rfl
theorem k_se_Grid_firstRow : Cond.selects R_Grid y_Grid_firstRow y_Grid_firstRow ∈ allw := kw_s (q := (y_Grid_firstRow, 15)) (k := 15) rfl
theorem k_se_Grid_greatest : Cond.selects R_Grid y_Grid_greatest y_Grid_greatest ∈ allw := kw_s (q := (y_Grid_greatest, 15)) (k := 16) rfl
theorem k_se_Grid_lastRow : Cond.selects R_Grid y_Grid_lastRow y_Grid_lastRow ∈ allw := kw_s (q := (y_Grid_lastRow, 15)) (k := 17) rfl
theorem k_se_Grid_polygonBits : Cond.selects R_Grid y_Grid_polygonBits y_Grid_polygonBits ∈ allw := kw_s (q := (y_Grid_polygonBits, 15)) (k := 18) rfl
theorem k_se_Painter_paintCaps : Cond.selects R_Painter y_Painter_paintCaps y_Painter_paintCaps ∈ allw := kw_s (q := (y_Painter_paintCaps, 3)) (k := 19) rfl
theorem k_se_Painter_paintCap : Cond.selects R_Painter y_Painter_paintCap y_Painter_paintCap ∈ allw := kw_s (q := (y_Painter_paintCap, 3)) (k := 20) rfl
theorem k_se_Grid_discBits : Cond.selects R_Grid y_Grid_discBits y_Grid_discBits ∈ allw := kw_s (q := (y_Grid_discBits, 15)) (k := 21) rfl
theorem k_se_Painter_paintJoin : Cond.selects R_Painter y_Painter_paintJoin y_Painter_paintJoin ∈ allw := kw_s (q := (y_Painter_paintJoin, 3)) (k := 22) rfl
theorem k_se_Painter_turnSign : Cond.selects R_Painter y_Painter_turnSign y_Painter_turnSign ∈ allw := kw_s (q := (y_Painter_turnSign, 3)) (k := 23) rfl
theorem k_se_Painter_paintMiter : Cond.selects R_Painter y_Painter_paintMiter y_Painter_paintMiter ∈ allw := kw_s (q := (y_Painter_paintMiter, 3)) (k := 24) rfl
theorem k_se_SR_countSet : Cond.selects R_SR y_SR_countSet y_SR_countSet ∈ allw := kw_s (q := (y_SR_countSet, 12)) (k := 25) rfl
theorem k_se_Mo_refused : Cond.selects R_Mo y_Mo_refused y_Mo_refused ∈ allw := kw_s (q := (y_Mo_refused, 38)) (k := 27) rfl
theorem k_se_Mo_add : Cond.selects R_Mo y_Mo_add y_Mo_add ∈ allw := kw_s (q := (y_Mo_add, 38)) (k := 28) rfl
theorem k_se_Mo_isOpen : Cond.selects R_Mo y_Mo_isOpen y_Mo_isOpen ∈ allw := kw_s (q := (y_Mo_isOpen, 38)) (k := 29) rfl
theorem k_se_Mo_closedOnes : Cond.selects R_Mo y_Mo_closedOnes y_Mo_closedOnes ∈ allw := kw_s (q := (y_Mo_closedOnes, 38)) (k := 30) rfl
theorem k_se_Mo_findPieces : Cond.selects R_Mo y_Mo_findPieces y_Mo_findPieces ∈ allw := kw_s (q := (y_Mo_findPieces, 38)) (k := 31) rfl
theorem k_se_Mo_hasDashes : Cond.selects R_Mo y_Mo_hasDashes y_Mo_hasDashes ∈ allw := kw_s (q := (y_Mo_hasDashes, 38)) (k := 32) rfl
theorem k_se_Mo_leave : Cond.selects R_Mo y_Mo_leave y_Mo_leave ∈ allw := kw_s (q := (y_Mo_leave, 38)) (k := 33) rfl
theorem k_se_Mo_piece : Cond.selects R_Mo y_Mo_piece y_Mo_piece ∈ allw := kw_s (q := (y_Mo_piece, 38)) (k := 34) rfl
theorem k_se_Mo_dashPieces : Cond.selects R_Mo y_Mo_dashPieces y_Mo_dashPieces ∈ allw := kw_s (q := (y_Mo_dashPieces, 38)) (k := 35) rfl
theorem k_se_Mo_firstDash : Cond.selects R_Mo y_Mo_firstDash y_Mo_firstDash ∈ allw := kw_s (q := (y_Mo_firstDash, 38)) (k := 36) rfl
theorem k_se_Mo_dashSegment : Cond.selects R_Mo y_Mo_dashSegment y_Mo_dashSegment ∈ allw := kw_s (q := (y_Mo_dashSegment, 38)) (k := 37) rfl
theorem k_se_Mo_offset : Cond.selects R_Mo y_Mo_offset y_Mo_offset ∈ allw := kw_s (q := (y_Mo_offset, 38)) (k := 38) rfl
theorem k_se_Mo_half : Cond.selects R_Mo y_Mo_half y_Mo_half ∈ allw := kw_s (q := (y_Mo_half, 38)) (k := 39) rfl
theorem k_se_Mo_dashPiece : Cond.selects R_Mo y_Mo_dashPiece y_Mo_dashPiece ∈ allw := kw_s (q := (y_Mo_dashPiece, 38)) (k := 40) rfl
theorem k_se_Mo_endChain : Cond.selects R_Mo y_Mo_endChain y_Mo_endChain ∈ allw := kw_s (q := (y_Mo_endChain, 38)) (k := 41) rfl
theorem k_se_Mo_plainPieces : Cond.selects R_Mo y_Mo_plainPieces y_Mo_plainPieces ∈ allw := kw_s (q := (y_Mo_plainPieces, 38)) (k := 42) rfl
theorem k_se_Mo_setPixels : Cond.selects R_Mo y_Mo_setPixels y_Mo_setPixels ∈ allw := kw_s (q := (y_Mo_setPixels, 38)) (k := 43) rfl
theorem k_se_Mo_isSet : Cond.selects R_Mo y_Mo_isSet y_Mo_isSet ∈ allw := kw_s (q := (y_Mo_isSet, 38)) (k := 44) rfl
theorem k_se_Mo_covers : Cond.selects R_Mo y_Mo_covers y_Mo_covers ∈ allw := kw_s (q := (y_Mo_covers, 38)) (k := 45) rfl
theorem k_se_Mo_inPiece : Cond.selects R_Mo y_Mo_inPiece y_Mo_inPiece ∈ allw := kw_s (q := (y_Mo_inPiece, 38)) (k := 46) rfl
theorem k_se_Mo_inDisc : Cond.selects R_Mo y_Mo_inDisc y_Mo_inDisc ∈ allw := kw_s (q := (y_Mo_inDisc, 38)) (k := 47) rfl
theorem k_se_Mo_inBody : Cond.selects R_Mo y_Mo_inBody y_Mo_inBody ∈ allw := kw_s (q := (y_Mo_inBody, 38)) (k := 48) rfl
theorem k_se_Mo_corner : Cond.selects R_Mo y_Mo_corner y_Mo_corner ∈ allw := kw_s (q := (y_Mo_corner, 38)) (k := 49) rfl
theorem k_se_Mo_inPolygon : Cond.selects R_Mo y_Mo_inPolygon y_Mo_inPolygon ∈ allw := kw_s (q := (y_Mo_inPolygon, 38)) (k := 50) rfl
theorem k_se_Mo_inCap : Cond.selects R_Mo y_Mo_inCap y_Mo_inCap ∈ allw := kw_s (q := (y_Mo_inCap, 38)) (k := 51) rfl
theorem k_se_Mo_inJoin : Cond.selects R_Mo y_Mo_inJoin y_Mo_inJoin ∈ allw := kw_s (q := (y_Mo_inJoin, 38)) (k := 52) rfl
theorem i_Grid : ∀ w ∈ u_ws R_Grid F_Grid 15, w ∈ allw := List.forall_mem_map.mpr (fun k hk => by
  have hk := List.mem_range.mp hk
  match k, hk with
  | 0, _ => exact kw_1 (k := 238) rfl rfl
  | 1, _ => exact kw_2 (k := 0) rfl rfl
  | 2, _ => exact kw_2 (k := 2) rfl rfl
  | 3, _ => exact kw_2 (k := 4) rfl rfl
  | 4, _ => exact kw_2 (k := 6) rfl rfl
  | 5, _ => exact kw_2 (k := 8) rfl rfl
  | 6, _ => exact kw_2 (k := 10) rfl rfl
  | 7, _ => exact kw_2 (k := 12) rfl rfl
  | 8, _ => exact kw_2 (k := 14) rfl rfl
  | 9, _ => exact kw_2 (k := 16) rfl rfl
  | 10, _ => exact kw_2 (k := 18) rfl rfl
  | 11, _ => exact kw_2 (k := 20) rfl rfl
  | 12, _ => exact kw_2 (k := 22) rfl rfl
  | 13, _ => exact kw_2 (k := 24) rfl rfl
  | 14, _ => exact kw_2 (k := 26) rfl rfl
  | k + 15, h => exact absurd h (by omega))
theorem i_Painter : ∀ w ∈ u_ws R_Painter F_Painter 3, w ∈ allw := List.forall_mem_map.mpr (fun k hk => by
  have hk := List.mem_range.mp hk
  match k, hk with
  | 0, _ => exact kw_2 (k := 39) rfl rfl
  | 1, _ => exact kw_2 (k := 41) rfl rfl
  | 2, _ => exact kw_2 (k := 43) rfl rfl
  | k + 3, h => exact absurd h (by omega))
theorem i_Path : ∀ w ∈ u_ws R_Path F_Path 7, w ∈ allw := List.forall_mem_map.mpr (fun k hk => by
  have hk := List.mem_range.mp hk
  match k, hk with
  | 0, _ => exact kw_1 (k := 48) rfl rfl
  | 1, _ => exact kw_1 (k := 50) rfl rfl
  | 2, _ => exact kw_1 (k := 52) rfl rfl
  | 3, _ => exact kw_1 (k := 54) rfl rfl
  | 4, _ => exact kw_1 (k := 56) rfl rfl
  | 5, _ => exact kw_1 (k := 58) rfl rfl
  | 6, _ => exact kw_1 (k := 60) rfl rfl
  | k + 7, h => exact absurd h (by omega))
theorem i_Pen : ∀ w ∈ u_ws R_Pen F_Pen 8, w ∈ allw := List.forall_mem_map.mpr (fun k hk => by
  have hk := List.mem_range.mp hk
  match k, hk with
  | 0, _ => exact kw_1 (k := 89) rfl rfl
  | 1, _ => exact kw_1 (k := 91) rfl rfl
  | 2, _ => exact kw_1 (k := 93) rfl rfl
  | 3, _ => exact kw_1 (k := 95) rfl rfl
  | 4, _ => exact kw_1 (k := 97) rfl rfl
  | 5, _ => exact kw_1 (k := 99) rfl rfl
  | 6, _ => exact kw_1 (k := 101) rfl rfl
  | 7, _ => exact kw_1 (k := 103) rfl rfl
  | k + 8, h => exact absurd h (by omega))
theorem i_Pieces : ∀ w ∈ u_ws R_Pieces F_Pieces 11, w ∈ allw := List.forall_mem_map.mpr (fun k hk => by
  have hk := List.mem_range.mp hk
  match k, hk with
  | 0, _ => exact kw_1 (k := 136) rfl rfl
  | 1, _ => exact kw_1 (k := 138) rfl rfl
  | 2, _ => exact kw_1 (k := 140) rfl rfl
  | 3, _ => exact kw_1 (k := 142) rfl rfl
  | 4, _ => exact kw_1 (k := 144) rfl rfl
  | 5, _ => exact kw_1 (k := 146) rfl rfl
  | 6, _ => exact kw_1 (k := 148) rfl rfl
  | 7, _ => exact kw_1 (k := 150) rfl rfl
  | 8, _ => exact kw_1 (k := 152) rfl rfl
  | 9, _ => exact kw_1 (k := 154) rfl rfl
  | 10, _ => exact kw_1 (k := 156) rfl rfl
  | k + 11, h => exact absurd h (by omega))
theorem i_Walker : ∀ w ∈ u_ws R_Walker F_Walker 17, w ∈ allw := List.forall_mem_map.mpr (fun k hk => by
  have hk := List.mem_range.mp hk
  match k, hk with
  | 0, _ => exact kw_1 (k := 182) rfl rfl
  | 1, _ => exact kw_1 (k := 184) rfl rfl
  | 2, _ => exact kw_1 (k := 186) rfl rfl
  | 3, _ => exact kw_1 (k := 188) rfl rfl
  | 4, _ => exact kw_1 (k := 190) rfl rfl
  | 5, _ => exact kw_1 (k := 192) rfl rfl
  | 6, _ => exact kw_1 (k := 194) rfl rfl
  | 7, _ => exact kw_1 (k := 196) rfl rfl
  | 8, _ => exact kw_1 (k := 198) rfl rfl
  | 9, _ => exact kw_1 (k := 200) rfl rfl
  | 10, _ => exact kw_1 (k := 202) rfl rfl
  | 11, _ => exact kw_1 (k := 204) rfl rfl
  | 12, _ => exact kw_1 (k := 206) rfl rfl
  | 13, _ => exact kw_1 (k := 208) rfl rfl
  | 14, _ => exact kw_1 (k := 210) rfl rfl
  | 15, _ => exact kw_1 (k := 212) rfl rfl
  | 16, _ => exact kw_1 (k := 214) rfl rfl
  | k + 17, h => exact absurd h (by omega))
theorem i_SR : ∀ w ∈ u_ws R_SR F_SR 12, w ∈ allw := List.forall_mem_map.mpr (fun k hk => by
  have hk := List.mem_range.mp hk
  match k, hk with
  | 0, _ => exact kw_2 (k := 58) rfl rfl
  | 1, _ => exact kw_2 (k := 60) rfl rfl
  | 2, _ => exact kw_2 (k := 62) rfl rfl
  | 3, _ => exact kw_2 (k := 64) rfl rfl
  | 4, _ => exact kw_2 (k := 66) rfl rfl
  | 5, _ => exact kw_2 (k := 68) rfl rfl
  | 6, _ => exact kw_2 (k := 70) rfl rfl
  | 7, _ => exact kw_2 (k := 72) rfl rfl
  | 8, _ => exact kw_2 (k := 74) rfl rfl
  | 9, _ => exact kw_2 (k := 76) rfl rfl
  | 10, _ => exact kw_2 (k := 78) rfl rfl
  | 11, _ => exact kw_2 (k := 80) rfl rfl
  | k + 12, h => exact absurd h (by omega))
theorem i_Mo : ∀ w ∈ u_ws R_Mo F_Mo 38, w ∈ allw := List.forall_mem_map.mpr (fun k hk => by
  have hk := List.mem_range.mp hk
  match k, hk with
  | 0, _ => exact kw_4 (k := 151) rfl rfl
  | 1, _ => exact kw_4 (k := 153) rfl rfl
  | 2, _ => exact kw_4 (k := 155) rfl rfl
  | 3, _ => exact kw_4 (k := 157) rfl rfl
  | 4, _ => exact kw_4 (k := 159) rfl rfl
  | 5, _ => exact kw_4 (k := 161) rfl rfl
  | 6, _ => exact kw_4 (k := 163) rfl rfl
  | 7, _ => exact kw_4 (k := 165) rfl rfl
  | 8, _ => exact kw_4 (k := 167) rfl rfl
  | 9, _ => exact kw_4 (k := 169) rfl rfl
  | 10, _ => exact kw_4 (k := 171) rfl rfl
  | 11, _ => exact kw_4 (k := 173) rfl rfl
  | 12, _ => exact kw_4 (k := 175) rfl rfl
  | 13, _ => exact kw_4 (k := 177) rfl rfl
  | 14, _ => exact kw_4 (k := 179) rfl rfl
  | 15, _ => exact kw_4 (k := 181) rfl rfl
  | 16, _ => exact kw_4 (k := 183) rfl rfl
  | 17, _ => exact kw_4 (k := 185) rfl rfl
  | 18, _ => exact kw_4 (k := 187) rfl rfl
  | 19, _ => exact kw_4 (k := 189) rfl rfl
  | 20, _ => exact kw_4 (k := 191) rfl rfl
  | 21, _ => exact kw_4 (k := 193) rfl rfl
  | 22, _ => exact kw_4 (k := 195) rfl rfl
  | 23, _ => exact kw_4 (k := 197) rfl rfl
  | 24, _ => exact kw_4 (k := 199) rfl rfl
  | 25, _ => exact kw_4 (k := 201) rfl rfl
  | 26, _ => exact kw_4 (k := 203) rfl rfl
  | 27, _ => exact kw_4 (k := 205) rfl rfl
  | 28, _ => exact kw_4 (k := 207) rfl rfl
  | 29, _ => exact kw_4 (k := 209) rfl rfl
  | 30, _ => exact kw_4 (k := 211) rfl rfl
  | 31, _ => exact kw_4 (k := 213) rfl rfl
  | 32, _ => exact kw_4 (k := 215) rfl rfl
  | 33, _ => exact kw_4 (k := 217) rfl rfl
  | 34, _ => exact kw_4 (k := 219) rfl rfl
  | 35, _ => exact kw_4 (k := 221) rfl rfl
  | 36, _ => exact kw_4 (k := 223) rfl rfl
  | 37, _ => exact kw_4 (k := 225) rfl rfl
  | k + 38, h => exact absurd h (by omega))
theorem kn_m_SR_9 : Cond.methodLinkNest R_SR 9 y_Path_init "StrokeRaster" ∈ nestw := List.mem_of_getElem? (i := 0) rfl
theorem kn_m_SR_18 : Cond.methodLinkNest R_SR 18 y_Pen_init "StrokeRaster" ∈ nestw := List.mem_of_getElem? (i := 1) rfl
theorem kn_m_SR_25 : Cond.methodLinkNest R_SR 25 y_Pieces_init "StrokeRaster" ∈ nestw := List.mem_of_getElem? (i := 2) rfl
theorem kn_m_SR_41 : Cond.methodLinkNest R_SR 41 y_Grid_init "StrokeRaster" ∈ nestw := List.mem_of_getElem? (i := 3) rfl
theorem kn_m_Walker_161 : Cond.methodLinkNest R_Walker 161 y_SR_root "StrokeRaster" ∈ nestw := List.mem_of_getElem? (i := 4) rfl
theorem kn_m_Grid_117 : Cond.methodLinkNest R_Grid 117 y_SR_root "StrokeRaster" ∈ nestw := List.mem_of_getElem? (i := 5) rfl
theorem g_SR_init : sr_d y_SR_init 0 := by decide +kernel
theorem g_Path_init : sr_d y_Path_init 0 := by decide +kernel
theorem g_Pen_init : sr_d y_Pen_init 0 := by decide +kernel
theorem g_Pieces_init : sr_d y_Pieces_init 0 := by decide +kernel
theorem g_Walker_init : sr_d y_Walker_init 3 := by decide +kernel
theorem g_Grid_init : sr_d y_Grid_init 0 := by decide +kernel
theorem g_Painter_init : sr_d y_Painter_init 3 := by decide +kernel
theorem g_SR_clear : sr_d y_SR_clear 0 := by decide +kernel
theorem g_Path_drop : sr_d y_Path_drop 0 := by decide +kernel
theorem g_SR_forget : sr_d y_SR_forget 0 := by decide +kernel
theorem g_Walker_forget : sr_d y_Walker_forget 0 := by decide +kernel
theorem g_SR_count : sr_d y_SR_count 1 := by decide +kernel
theorem g_Walker_walk : sr_d y_Walker_walk 0 := by decide +kernel
theorem g_Pieces_drop : sr_d y_Pieces_drop 0 := by decide +kernel
theorem g_Walker_passPhase : sr_d y_Walker_passPhase 0 := by decide +kernel
theorem g_Math_floorMod_III : sr_d y_Math_floorMod_III 2 := by decide +kernel
theorem g_Walker_dashAfter : sr_d y_Walker_dashAfter 1 := by decide +kernel
theorem g_Walker_walkSubpath : sr_d y_Walker_walkSubpath 1 := by decide +kernel
theorem g_Path_behind : sr_d y_Path_behind 1 := by decide +kernel
theorem g_Pen_isDashed : sr_d y_Pen_isDashed 0 := by decide +kernel
theorem g_Walker_takeSegment : sr_d y_Walker_takeSegment 2 := by decide +kernel
theorem g_Walker_offsetPart : sr_d y_Walker_offsetPart 2 := by decide +kernel
theorem g_SR_root : sr_d y_SR_root 1 := by decide +kernel
theorem g_Walker_cutSegment : sr_d y_Walker_cutSegment 0 := by decide +kernel
theorem g_Walker_addPiece : sr_d y_Walker_addPiece 2 := by decide +kernel
theorem g_Walker_fineAt : sr_d y_Walker_fineAt 3 := by decide +kernel
theorem g_Math_floorDiv_JJJ : sr_d y_Math_floorDiv_JJJ 2 := by decide +kernel
theorem g_Pieces_add : sr_d y_Pieces_add 6 := by decide +kernel
theorem g_Pieces_grow : sr_d y_Pieces_grow 1 := by decide +kernel
theorem g_Arr_copyOf_AIIAI : sr_d y_Arr_copyOf_AIIAI 2 := by decide +kernel
theorem g_Pieces_endChain : sr_d y_Pieces_endChain 1 := by decide +kernel
theorem g_Pieces_addDot : sr_d y_Pieces_addDot 2 := by decide +kernel
theorem g_Pieces_closeChain : sr_d y_Pieces_closeChain 1 := by decide +kernel
theorem g_SR_paintPicture : sr_d y_SR_paintPicture 0 := by decide +kernel
theorem g_Grid_across : sr_d y_Grid_across 3 := by decide +kernel
theorem g_Grid_bitsFromTo : sr_d y_Grid_bitsFromTo 2 := by decide +kernel
theorem g_Grid_upwards : sr_d y_Grid_upwards 3 := by decide +kernel
theorem g_Arr_fill_AJJV : sr_d y_Arr_fill_AJJV 2 := by decide +kernel
theorem g_Painter_paint : sr_d y_Painter_paint 0 := by decide +kernel
theorem g_Grid_isFilled : sr_d y_Grid_isFilled 0 := by decide +kernel
theorem g_Painter_isNear : sr_d y_Painter_isNear 1 := by decide +kernel
theorem g_Grid_meets : sr_d y_Grid_meets 4 := by decide +kernel
theorem g_Painter_paintBody : sr_d y_Painter_paintBody 1 := by decide +kernel
theorem g_Grid_from : sr_d y_Grid_from 2 := by decide +kernel
theorem g_Grid_corner : sr_d y_Grid_corner 2 := by decide +kernel
theorem g_Grid_polygon : sr_d y_Grid_polygon 0 := by decide +kernel
theorem g_Grid_doubledArea : sr_d y_Grid_doubledArea 0 := by decide +kernel
theorem g_Grid_least : sr_d y_Grid_least 1 := by decide +kernel
theorem g_Grid_firstRow : sr_d y_Grid_firstRow 1 := by decide +kernel
theorem g_Grid_greatest : sr_d y_Grid_greatest 1 := by decide +kernel
theorem g_Grid_lastRow : sr_d y_Grid_lastRow 1 := by decide +kernel
theorem g_Grid_polygonBits : sr_d y_Grid_polygonBits 1 := by decide +kernel
theorem g_Painter_paintCaps : sr_d y_Painter_paintCaps 1 := by decide +kernel
theorem g_Painter_paintCap : sr_d y_Painter_paintCap 4 := by decide +kernel
theorem g_Grid_disc : sr_d y_Grid_disc 3 := by decide +kernel
theorem g_Grid_discBits : sr_d y_Grid_discBits 3 := by decide +kernel
theorem g_Painter_paintJoin : sr_d y_Painter_paintJoin 1 := by decide +kernel
theorem g_Painter_turnSign : sr_d y_Painter_turnSign 2 := by decide +kernel
theorem g_Long_signum_JI : sr_d y_Long_signum_JI 1 := by decide +kernel
theorem g_Painter_paintMiter : sr_d y_Painter_paintMiter 1 := by decide +kernel
theorem g_Grid_bits : sr_d y_Grid_bits 1 := by decide +kernel
theorem g_SR_countSet : sr_d y_SR_countSet 0 := by decide +kernel
theorem g_Long_bitCount_JI : sr_d y_Long_bitCount_JI 1 := by decide +kernel
theorem g_La_move : sr_d y_La_move 4 := by decide +kernel
theorem g_SR_move : sr_d y_SR_move 2 := by decide +kernel
theorem g_SR_isCoordinate : sr_d y_SR_isCoordinate 1 := by decide +kernel
theorem g_Path_begin : sr_d y_Path_begin 2 := by decide +kernel
theorem g_Path_put : sr_d y_Path_put 2 := by decide +kernel
theorem g_La_line : sr_d y_La_line 4 := by decide +kernel
theorem g_SR_line : sr_d y_SR_line 2 := by decide +kernel
theorem g_Path_takes : sr_d y_Path_takes 1 := by decide +kernel
theorem g_Path_isOpen : sr_d y_Path_isOpen 0 := by decide +kernel
theorem g_La_control : sr_d y_La_control 5 := by decide +kernel
theorem g_SR_control : sr_d y_SR_control 4 := by decide +kernel
theorem g_La_curve : sr_d y_La_curve 4 := by decide +kernel
theorem g_SR_curve : sr_d y_SR_curve 2 := by decide +kernel
theorem g_Path_bend : sr_d y_Path_bend 6 := by decide +kernel
theorem g_Path_between : sr_d y_Path_between 5 := by decide +kernel
theorem g_Math_floorDiv_III : sr_d y_Math_floorDiv_III 2 := by decide +kernel
theorem g_La_close : sr_d y_La_close 2 := by decide +kernel
theorem g_SR_close : sr_d y_SR_close 0 := by decide +kernel
theorem g_Path_shutLast : sr_d y_Path_shutLast 0 := by decide +kernel
theorem g_La_pen : sr_d y_La_pen 5 := by decide +kernel
theorem g_SR_pen : sr_d y_SR_pen 4 := by decide +kernel
theorem g_Pen_shape : sr_d y_Pen_shape 4 := by decide +kernel
theorem g_La_dash : sr_d y_La_dash 3 := by decide +kernel
theorem g_SR_dash : sr_d y_SR_dash 1 := by decide +kernel
theorem g_Pen_addDash : sr_d y_Pen_addDash 1 := by decide +kernel
theorem g_La_plain : sr_d y_La_plain 3 := by decide +kernel
theorem g_SR_plain : sr_d y_SR_plain 1 := by decide +kernel
theorem g_Pen_dropDashes : sr_d y_Pen_dropDashes 1 := by decide +kernel
theorem g_La_has : sr_d y_La_has 4 := by decide +kernel
theorem g_SR_has : sr_d y_SR_has 2 := by decide +kernel
theorem g_La_row : sr_d y_La_row 3 := by decide +kernel
theorem g_SR_row : sr_d y_SR_row 1 := by decide +kernel
theorem g_SR_isInPicture : sr_d y_SR_isInPicture 1 := by decide +kernel
theorem g_SR_bottom : sr_d y_SR_bottom 1 := by decide +kernel
theorem g_La_share : sr_d y_La_share 4 := by decide +kernel
theorem g_SR_share : sr_d y_SR_share 2 := by decide +kernel
theorem g_Mo_init : sr_d y_Mo_init 0 := by decide +kernel
theorem g_Mo_thrown : sr_d y_Mo_thrown 0 := by decide +kernel
theorem g_Mo_move : sr_d y_Mo_move 2 := by decide +kernel
theorem g_Mo_isPoint : sr_d y_Mo_isPoint 2 := by decide +kernel
theorem g_Mo_isIn : sr_d y_Mo_isIn 3 := by decide +kernel
theorem g_Mo_refused : sr_d y_Mo_refused 1 := by decide +kernel
theorem g_Mo_add : sr_d y_Mo_add 2 := by decide +kernel
theorem g_Mo_line : sr_d y_Mo_line 2 := by decide +kernel
theorem g_Mo_isOpen : sr_d y_Mo_isOpen 0 := by decide +kernel
theorem g_Mo_control : sr_d y_Mo_control 4 := by decide +kernel
theorem g_Mo_curve : sr_d y_Mo_curve 2 := by decide +kernel
theorem g_Mo_along : sr_d y_Mo_along 5 := by decide +kernel
theorem g_Mo_close : sr_d y_Mo_close 0 := by decide +kernel
theorem g_Mo_closedOnes : sr_d y_Mo_closedOnes 0 := by decide +kernel
theorem g_Mo_clear : sr_d y_Mo_clear 0 := by decide +kernel
theorem g_Mo_pen : sr_d y_Mo_pen 4 := by decide +kernel
theorem g_Mo_dash : sr_d y_Mo_dash 1 := by decide +kernel
theorem g_Mo_plain : sr_d y_Mo_plain 1 := by decide +kernel
theorem g_Mo_count : sr_d y_Mo_count 1 := by decide +kernel
theorem g_Mo_findPieces : sr_d y_Mo_findPieces 0 := by decide +kernel
theorem g_Mo_hasDashes : sr_d y_Mo_hasDashes 0 := by decide +kernel
theorem g_Mo_leave : sr_d y_Mo_leave 1 := by decide +kernel
theorem g_Mo_piece : sr_d y_Mo_piece 5 := by decide +kernel
theorem g_Mo_dashPieces : sr_d y_Mo_dashPieces 1 := by decide +kernel
theorem g_Mo_firstDash : sr_d y_Mo_firstDash 0 := by decide +kernel
theorem g_Mo_dashSegment : sr_d y_Mo_dashSegment 1 := by decide +kernel
theorem g_Mo_offset : sr_d y_Mo_offset 2 := by decide +kernel
theorem g_Mo_half : sr_d y_Mo_half 0 := by decide +kernel
theorem g_Mo_nearest : sr_d y_Mo_nearest 2 := by decide +kernel
theorem g_Mo_root : sr_d y_Mo_root 1 := by decide +kernel
theorem g_Mo_dashPiece : sr_d y_Mo_dashPiece 5 := by decide +kernel
theorem g_Mo_floor : sr_d y_Mo_floor 2 := by decide +kernel
theorem g_Mo_endChain : sr_d y_Mo_endChain 0 := by decide +kernel
theorem g_Mo_plainPieces : sr_d y_Mo_plainPieces 1 := by decide +kernel
theorem g_Mo_setPixels : sr_d y_Mo_setPixels 0 := by decide +kernel
theorem g_Mo_isSet : sr_d y_Mo_isSet 2 := by decide +kernel
theorem g_Mo_covers : sr_d y_Mo_covers 2 := by decide +kernel
theorem g_Mo_inPiece : sr_d y_Mo_inPiece 3 := by decide +kernel
theorem g_Mo_inDisc : sr_d y_Mo_inDisc 4 := by decide +kernel
theorem g_Mo_inBody : sr_d y_Mo_inBody 3 := by decide +kernel
theorem g_Mo_corner : sr_d y_Mo_corner 3 := by decide +kernel
theorem g_Mo_inPolygon : sr_d y_Mo_inPolygon 3 := by decide +kernel
theorem g_Mo_cross : sr_d y_Mo_cross 4 := by decide +kernel
theorem g_Mo_inCap : sr_d y_Mo_inCap 6 := by decide +kernel
theorem g_Mo_inJoin : sr_d y_Mo_inJoin 4 := by decide +kernel
theorem g_Mo_has : sr_d y_Mo_has 2 := by decide +kernel
theorem g_Mo_row : sr_d y_Mo_row 1 := by decide +kernel
theorem g_Mo_share : sr_d y_Mo_share 2 := by decide +kernel
