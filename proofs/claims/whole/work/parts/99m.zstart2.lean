/-! what holds at the start: the constants, by their words' places -/
def gv : List Cond := flatC (Jvm.Cond.and given_1 narrow_1)
def posS : List Nat := [1079, 1178, 1117, 1122, 1138, 1143, 1148, 1183, 1192, 1203, 1213, 1225, 1236, 1246, 1168, 1257, 1267, 1276, 1287, 1297, 1083, 1092, 1102, 1161, 1153, 1109, 1127, 1306, 1315, 1324, 1332, 1342, 1352, 866, 876, 885, 896, 906, 925, 858, 915, 934, 943, 951, 961, 969, 1018, 1026, 1034, 1041, 1050, 1059, 1001, 1008, 1066, 1073, 978, 986, 995, 308, 336, 370, 413, 458, 487, 510, 542, 570, 613, 647, 668, 688, 714, 744, 767, 784, 814, 837, 397, 440, 593]
def posT : List Nat := [7, 4, 56, 68, 140, 74, 77, 122, 125, 128, 145, 148, 151, 154, 157, 160, 163, 137, 166, 169, 172, 175, 178, 59, 62, 65, 134, 131, 71, 80, 181, 184, 187, 190, 193, 196]
def posN : List Nat := [0, 211, 272, 226, 257, 240, 0, 270, 225, 255, 243, 213, 0, 228, 258, 241, 210, 271, 0, 256, 242, 212, 273, 227, 0]
def dTok : String := "LRiddleRoad$Token;"
def sTm (q : String × Nat × String × List Int32) : Term := .string q.1 q.2.1
def vTm (q : String × Nat × String × List Int32) : Term := .field (sTm q) "java/lang/String" "value" "[B"
def blkS (q : String × Nat × String × List Int32) : List Cond :=
  [.exactly (sTm q) "java/lang/String", .eq (.field (sTm q) "java/lang/String" "coder" "B") (.int 0), .arrayOf (vTm q) .byte, .eq (.length (vTm q)) (.int (Int32.ofNat q.2.2.2.length))] ++ (List.range q.2.2.2.length).map fun i => .eq (.elem (vTm q) (.int (Int32.ofNat i))) (.int (q.2.2.2.getD i 0))
def stAt (j : Nat) : String × Nat × String × List Int32 := strT.getD j ("", 0, "", [])
def tTm (i : Nat) : Term := .static RX10 (tokN.getD i "") dTok
def blkT (i : Nat) : List Cond := [.exactly (tTm i) RX10, .eq (.field (tTm i) "java/lang/Enum" "ordinal" "I") (.int (tokO.getD i 0)), .eq (.field (tTm i) RX10 "spelling" "Ljava/lang/String;") (sTm (stAt (tokS.getD i 0)))]
def aTm : Term := .static RX10 "ALL" "[LRiddleRoad$Token;"
def wTm : Term := .static RX0 "$SwitchMap$RiddleRoad$Token" "[I"
def blkN (k : Nat) : Bool := k / 5 == k % 5 || decide (gv[posN.getD k 0]? = some (.not (.castable (xcN (k / 5)) (xcN (k % 5)))))
def inGv (p : Nat) (l : List Cond) : Bool := decide ((gv.drop p).take l.length = l)
theorem inGv_mem {p : Nat} {l : List Cond} (h : inGv p l = true) {w : Cond} (hw : w ∈ l) : w ∈ gv := by
  have e := of_decide_eq_true h
  rw [← e] at hw
  exact List.mem_of_mem_drop (List.mem_of_mem_take hw)
theorem strT_len : strT.length = 81 := by decide +kernel
theorem blkS_ok : alB (fun j => inGv (posS.getD j 0) (blkS (stAt j))) 81 = true := by decide +kernel
theorem blkT_ok : alB (fun i => inGv (posT.getD i 0) (blkT i)) 36 = true := by decide +kernel
theorem blkN_ok : alB blkN 25 = true := by decide +kernel
theorem blkA_ok : inGv 12 ([.arrayOf aTm (.object RX10), .eq (.length aTm) (.int 36)]) = true := by decide +kernel
theorem blkA2_ok : inGv (12 + 3) ((List.range 36).map fun i => .eq (.elem aTm (.int (Int32.ofNat i))) (tTm i)) = true := by decide +kernel
theorem blkW_ok : inGv 84 ([.arrayOf wTm .int, .eq (.length wTm) (.int 36)] ++ (List.range 36).map fun i => .eq (.elem wTm (.int (Int32.ofNat i))) (.int (swL.getD i 0))) = true := by decide +kernel
theorem tabT_ok : alB (fun i => decide (Cond.laysStatic RX10 (tokN.getD i "") dTok ∈ lw_tbl)) 36 = true := by decide +kernel
theorem tabS_ok : alB (fun j => decide (Cond.stringRef (stAt j).1 (stAt j).2.1 (stAt j).2.2.1 ∈ lw_tbl)) 81 = true := by decide +kernel
