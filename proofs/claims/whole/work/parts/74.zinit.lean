/-! the state at the start -/
def m0 : Mem := (fun _ _ => 0, fun _ _ => 0, fun _ _ => 0, fun _ => (0, 0), 1000)
def ini1 : Option Mem := (nO m0 18).bind fun p1 => F_RR_init p1.1 p1.2
def ini : Option Mem := ini1.bind fun v2 => (nO v2 19).bind fun p5 => (F_Mo_init p5.1 p5.2).bind fun v6 => (nA v6 3 (1 : Int32)).bind fun p9 => some p9.2
def iniM : Mem := ini.getD m0
theorem ini_some : ini.isSome = true ∧ qZ (ini1.getD m0) = 1528 ∧ qZ iniM = 1538 := by decide +kernel
def iniN : NM := iniM.2
def iniI : IM := iniM.1
def wnB1 (N : NM) (a : Nat) : Bool := decide (kS N a = 17 ∧ kR N a 1 = a + 1 ∧ kR N a 2 = a + 2 ∧ kR N a 3 = a + 3 ∧ kR N a 5 = a + 4 ∧ kR N a 6 = a + 5 ∧ kR N a 7 = a + 6 ∧ kR N a 8 = a + 7 ∧ kR N a 9 = a + 8 ∧ kR N a 10 = a + 9 ∧ kR N a 11 = a + 18)
def wnB2 (N : NM) (a : Nat) : Bool := alB (fun j => decide (j = 0 ∨ (kS N (a + j) = 1 ∧ kN N (a + j) = if j ≤ 3 then 12 else 8))) 9
def wnB3 (N : NM) (a : Nat) : Bool := decide (kS N (a + 9) = 6 ∧ kN N (a + 9) = 8 ∧ kS N (a + 18) = 6 ∧ kN N (a + 18) = 8)
def wnB4 (N : NM) (a : Nat) : Bool := alB (fun w => decide ((kR N (a + 9) w = a + 10 + w ∧ kS N (a + 10 + w) = 1 ∧ kN N (a + 10 + w) = 12) ∧ kR N (a + 18) w = a + 19 + w ∧ kS N (a + 19 + w) = 1 ∧ kN N (a + 19 + w) = 12)) 8
def wnB (N : NM) (a : Nat) : Bool := wnB1 N a && (wnB2 N a && (wnB3 N a && wnB4 N a))
theorem wnB_e {N : NM} {a : Nat} (h : wnB N a = true) : WN N a := by
  obtain ⟨h1, h⟩ := Bool.and_eq_true_iff.mp h
  obtain ⟨h2, h⟩ := Bool.and_eq_true_iff.mp h
  obtain ⟨h4, h5⟩ := Bool.and_eq_true_iff.mp h
  have q2 : ∀ j, 1 ≤ j → j < 9 → kS N (a + j) = 1 ∧ kN N (a + j) = if j ≤ 3 then 12 else 8 := fun j j1 j2 => by
    rcases of_decide_eq_true (alB_iff.mp h2 j j2) with h | h
    · omega
    · exact h
  refine ⟨of_decide_eq_true h1, fun j j1 j2 => ?_, fun j j1 j2 => ?_, of_decide_eq_true h4, fun w hw => of_decide_eq_true (alB_iff.mp h5 w hw)⟩
  · have := q2 j j1 (by omega)
    rwa [if_pos j2] at this
  · have := q2 j (by omega) (by omega)
    rwa [if_neg (by omega)] at this
theorem ini_shp : ((kS iniN 1000 = 18 ∧ kR iniN 1000 0 = 1001 ∧ kR iniN 1000 1 = 1003 ∧ kR iniN 1000 2 = 1007 ∧ kR iniN 1000 3 = 1040 ∧ kR iniN 1000 4 = 1073 ∧ kR iniN 1000 5 = 1074 ∧ kR iniN 1000 6 = 1077 ∧ kR iniN 1000 7 = 1475 ∧ kR iniN 1000 8 = 1485 ∧ kR iniN 1000 9 = 1518) ∧
  (kS iniN 1001 = 15 ∧ kR iniN 1001 0 = 1002 ∧ kS iniN 1002 = 1 ∧ kN iniN 1002 = 400) ∧
  (kS iniN 1003 = 16 ∧ kR iniN 1003 0 = 1002 ∧ kR iniN 1003 1 = 1001 ∧ kR iniN 1003 2 = 1004 ∧ kR iniN 1003 3 = 1005 ∧ kR iniN 1003 4 = 1006 ∧ (kS iniN 1004 = 4 ∧ kN iniN 1004 = 401) ∧ (kS iniN 1005 = 1 ∧ kN iniN 1005 = 401) ∧ (kS iniN 1006 = 1 ∧ kN iniN 1006 = 401))) ∧
  (wnB iniN 1007 = true ∧ wnB iniN 1040 = true ∧ wnB iniN 1485 = true ∧ ∀ i, i < 12 → wnB iniN (1079 + 33 * i) = true) ∧
  ((kS iniN 1073 = 14 ∧ kR iniN 1073 0 = 1003 ∧ kR iniN 1073 1 = 1040) ∧
  (kS iniN 1074 = 13 ∧ kR iniN 1074 0 = 1003 ∧ kR iniN 1074 1 = 1075 ∧ kR iniN 1074 2 = 1076 ∧ (kS iniN 1075 = 4 ∧ kN iniN 1075 = 800) ∧ (kS iniN 1076 = 1 ∧ kN iniN 1076 = 800)) ∧
  (kS iniN 1077 = 11 ∧ kR iniN 1077 0 = 1078 ∧ (kS iniN 1078 = 5 ∧ kN iniN 1078 = 12) ∧ ∀ i, i < 12 → kR iniN 1078 i = 1079 + 33 * i)) := by decide +kernel
theorem ini_cns : ((kS iniN 1475 = 10 ∧ kR iniN 1475 0 = 1475 + 1 ∧ kR iniN 1475 1 = 1475 + 8 ∧ kR iniN 1475 2 = 1475 + 9) ∧ (kS iniN (1475 + 1) = 6 ∧ kN iniN (1475 + 1) = 6) ∧ (kS iniN (1475 + 8) = 1 ∧ kN iniN (1475 + 8) = 6) ∧ (kS iniN (1475 + 9) = 1 ∧ kN iniN (1475 + 9) = 64) ∧ ∀ i, i < 6 → kR iniN (1475 + 1) i = 1475 + 2 + i ∧ kS iniN (1475 + 2 + i) = 1 ∧ kN iniN (1475 + 2 + i) = 12) ∧
  ((kS iniN 1518 = 10 ∧ kR iniN 1518 0 = 1518 + 1 ∧ kR iniN 1518 1 = 1518 + 8 ∧ kR iniN 1518 2 = 1518 + 9) ∧ (kS iniN (1518 + 1) = 6 ∧ kN iniN (1518 + 1) = 6) ∧ (kS iniN (1518 + 8) = 1 ∧ kN iniN (1518 + 8) = 6) ∧ (kS iniN (1518 + 9) = 1 ∧ kN iniN (1518 + 9) = 64) ∧ ∀ i, i < 6 → kR iniN (1518 + 1) i = 1518 + 2 + i ∧ kS iniN (1518 + 2 + i) = 1 ∧ kN iniN (1518 + 2 + i) = 12) := by decide +kernel
theorem ini_mn : (kS iniN 1528 = 19 ∧ kR iniN 1528 1 = 1529 ∧ kR iniN 1528 2 = 1530 ∧ kR iniN 1528 3 = 1531 ∧ kR iniN 1528 5 = 1532 ∧ kR iniN 1528 7 = 1533 ∧ kR iniN 1528 14 = 1534 ∧ kR iniN 1528 16 = 1535 ∧ kR iniN 1528 19 = 1536) ∧
  (kS iniN 1529 = 1 ∧ kN iniN 1529 = 2038) ∧ (kS iniN 1530 = 1 ∧ kN iniN 1530 = 1201) ∧ (kS iniN 1531 = 1 ∧ kN iniN 1531 = 1201) ∧ (kS iniN 1532 = 1 ∧ kN iniN 1532 = 3420) ∧ (kS iniN 1533 = 2 ∧ kN iniN 1533 = 400) ∧ (kS iniN 1534 = 1 ∧ kN iniN 1534 = 5) ∧ (kS iniN 1535 = 1 ∧ kN iniN 1535 = 400) ∧ (kS iniN 1536 = 1 ∧ kN iniN 1536 = 64) ∧ kS iniN 1537 = 3 ∧ kN iniN 1537 = 1 := by decide +kernel
