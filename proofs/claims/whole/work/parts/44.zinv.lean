/-! all shapes; what holds between the calls -/
def Shp (N : NM) : Prop :=
  (kS N 1000 = 18 ∧ kR N 1000 0 = 1001 ∧ kR N 1000 1 = 1003 ∧ kR N 1000 2 = 1007 ∧ kR N 1000 3 = 1040 ∧ kR N 1000 4 = 1073 ∧ kR N 1000 5 = 1074 ∧ kR N 1000 6 = 1077 ∧ kR N 1000 7 = 1475 ∧ kR N 1000 8 = 1485 ∧ kR N 1000 9 = 1518) ∧
  (kS N 1001 = 15 ∧ kR N 1001 0 = 1002 ∧ kS N 1002 = 1 ∧ kN N 1002 = 400) ∧
  (kS N 1003 = 16 ∧ kR N 1003 0 = 1002 ∧ kR N 1003 1 = 1001 ∧ kR N 1003 2 = 1004 ∧ kR N 1003 3 = 1005 ∧ kR N 1003 4 = 1006 ∧ (kS N 1004 = 4 ∧ kN N 1004 = 401) ∧ (kS N 1005 = 1 ∧ kN N 1005 = 401) ∧ (kS N 1006 = 1 ∧ kN N 1006 = 401)) ∧
  (WN N 1007 ∧ WN N 1040 ∧ WN N 1485 ∧ ∀ i, i < 12 → WN N (1079 + 33 * i)) ∧
  (kS N 1073 = 14 ∧ kR N 1073 0 = 1003 ∧ kR N 1073 1 = 1040) ∧
  (kS N 1074 = 13 ∧ kR N 1074 0 = 1003 ∧ kR N 1074 1 = 1075 ∧ kR N 1074 2 = 1076 ∧ (kS N 1075 = 4 ∧ kN N 1075 = 800) ∧ (kS N 1076 = 1 ∧ kN N 1076 = 800)) ∧
  (kS N 1077 = 11 ∧ kR N 1077 0 = 1078 ∧ (kS N 1078 = 5 ∧ kN N 1078 = 12) ∧ ∀ i, i < 12 → kR N 1078 i = 1079 + 33 * i) ∧
  (CNs N 1475 ∧ CNs N 1518) ∧ MN N ∧ (kS N 1537 = 3 ∧ kN N 1537 = 1) ∧ (1538 ≤ kZ N ∧ ∀ b, kZ N ≤ b → kS N b = 0)
/-- the rest goes on: what was made stays -/
def NXc (N N' : NM) : Prop := (∀ b, kS N b ≠ 0 → kS N' b = kS N b ∧ kN N' b = kN N b) ∧ (∀ b k, kS N b ≠ 0 → b ≠ 1004 → b ≠ 1075 → (kS N b = 17 → k ≠ 19) → kR N' b k = kR N b k) ∧ kZ N ≤ kZ N' ∧ ∀ b, kZ N' ≤ b → kS N' b = 0
section INV
variable {a b c d s g w k v q p n L o hh : Nat} {I I' I2 : IM} {W W' : Nat → Int32} {N N' N2 K : NM} {J J' : IM} {M M' : Mem} {P : List lnT}
theorem NXc.id (h : ∀ b, kZ N ≤ b → kS N b = 0) : NXc N N := ⟨fun _ _ => ⟨rfl, rfl⟩, fun _ _ _ _ _ _ => rfl, Nat.le_refl _, h⟩
theorem NXc.trans (h : NXc N N') (h' : NXc N' N2) : NXc N N2 := by
  refine ⟨fun b hb => ?_, fun b k hb h1 h2 h3 => ?_, Nat.le_trans h.2.2.1 h'.2.2.1, h'.2.2.2⟩
  · obtain ⟨e1, e2⟩ := h.1 b hb
    obtain ⟨e3, e4⟩ := h'.1 b (by rw [e1]; exact hb)
    exact ⟨e3.trans e1, e4.trans e2⟩
  · have e1 := (h.1 b hb).1
    rw [h'.2.1 b k (by rw [e1]; exact hb) h1 h2 (by rw [e1]; exact h3), h.2.1 b k hb h1 h2 h3]
theorem NXc.kk (h : NXc N N') {t : Nat} (e : kS N b = t) (ht : t ≠ 0) : kS N' b = t := by
  rw [(h.1 b (by rw [e]; exact ht)).1, e]
theorem NXc.nn (h : NXc N N') {t m : Nat} (e : kS N b = t) (ht : t ≠ 0) (em : kN N b = m) : kN N' b = m := by
  rw [(h.1 b (by rw [e]; exact ht)).2, em]
theorem NXc.rr (h : NXc N N') {t r : Nat} (e : kS N b = t) (ht : t ≠ 0) (h1 : b ≠ 1004) (h2 : b ≠ 1075) (h3 : t = 17 → k ≠ 19) (er : kR N b k = r) : kR N' b k = r := by
  rw [h.2.1 b k (by rw [e]; exact ht) h1 h2 (by rw [e]; exact h3), er]
theorem WN.nx (h : WN N a) (hx : NXc N N') (z1 : ¬ (a ≤ 1004 ∧ 1004 < a + 27)) (z2 : ¬ (a ≤ 1075 ∧ 1075 < a + 27)) : WN N' a := by
  obtain ⟨⟨k0, r1, r2, r3, r5, r6, r7, r8, r9, r10, r11⟩, h2, h3, ⟨k9, n9, k18, n18⟩, h5⟩ := h
  have rr : ∀ {k r : Nat}, k ≠ 19 → kR N a k = r → kR N' a k = r := fun hk e => hx.rr k0 (by omega) (by omega) (by omega) (fun _ => hk) e
  refine ⟨⟨hx.kk k0 (by omega), rr (by omega) r1, rr (by omega) r2, rr (by omega) r3, rr (by omega) r5, rr (by omega) r6, rr (by omega) r7, rr (by omega) r8, rr (by omega) r9, rr (by omega) r10, rr (by omega) r11⟩, fun j j1 j2 => ⟨hx.kk (h2 j j1 j2).1 (by omega), hx.nn (h2 j j1 j2).1 (by omega) (h2 j j1 j2).2⟩, fun j j1 j2 => ⟨hx.kk (h3 j j1 j2).1 (by omega), hx.nn (h3 j j1 j2).1 (by omega) (h3 j j1 j2).2⟩, ⟨hx.kk k9 (by omega), hx.nn k9 (by omega) n9, hx.kk k18 (by omega), hx.nn k18 (by omega) n18⟩, fun w hw => ?_⟩
  obtain ⟨⟨s1, s2, s3⟩, s4, s5, s6⟩ := h5 w hw
  exact ⟨⟨hx.rr k9 (by omega) (by omega) (by omega) (fun z => by omega) s1, hx.kk s2 (by omega), hx.nn s2 (by omega) s3⟩, hx.rr k18 (by omega) (by omega) (by omega) (fun z => by omega) s4, hx.kk s5 (by omega), hx.nn s5 (by omega) s6⟩
theorem CNs.nx (h : CNs N c) (hx : NXc N N') (z1 : ¬ (c ≤ 1004 ∧ 1004 < c + 10)) (z2 : ¬ (c ≤ 1075 ∧ 1075 < c + 10)) : CNs N' c := by
  obtain ⟨⟨k0, r0, r1, r2⟩, ⟨k1, n1⟩, ⟨k8, n8⟩, ⟨k9, n9⟩, h5⟩ := h
  have rr : ∀ {k r : Nat}, kR N c k = r → kR N' c k = r := fun e => hx.rr k0 (by omega) (by omega) (by omega) (fun z => by omega) e
  refine ⟨⟨hx.kk k0 (by omega), rr r0, rr r1, rr r2⟩, ⟨hx.kk k1 (by omega), hx.nn k1 (by omega) n1⟩, ⟨hx.kk k8 (by omega), hx.nn k8 (by omega) n8⟩, ⟨hx.kk k9 (by omega), hx.nn k9 (by omega) n9⟩, fun i hi => ?_⟩
  obtain ⟨s1, s2, s3⟩ := h5 i hi
  exact ⟨hx.rr k1 (by omega) (by omega) (by omega) (fun z => by omega) s1, hx.kk s2 (by omega), hx.nn s2 (by omega) s3⟩
theorem MN.nx (h : MN N) (hx : NXc N N') : MN N' := by
  obtain ⟨⟨k0, r1, r2, r3, r5, r7, r14, r16, r19⟩, ⟨a1, a2⟩, ⟨b1, b2⟩, ⟨c1, c2⟩, ⟨d1, d2⟩, ⟨e1, e2⟩, ⟨f1, f2⟩, ⟨g1, g2⟩, ⟨i1, i2⟩⟩ := h
  have rr : ∀ {k r : Nat}, kR N 1528 k = r → kR N' 1528 k = r := fun e => hx.rr k0 (by omega) (by omega) (by omega) (fun z => by omega) e
  exact ⟨⟨hx.kk k0 (by omega), rr r1, rr r2, rr r3, rr r5, rr r7, rr r14, rr r16, rr r19⟩, ⟨hx.kk a1 (by omega), hx.nn a1 (by omega) a2⟩, ⟨hx.kk b1 (by omega), hx.nn b1 (by omega) b2⟩, ⟨hx.kk c1 (by omega), hx.nn c1 (by omega) c2⟩, ⟨hx.kk d1 (by omega), hx.nn d1 (by omega) d2⟩, ⟨hx.kk e1 (by omega), hx.nn e1 (by omega) e2⟩, ⟨hx.kk f1 (by omega), hx.nn f1 (by omega) f2⟩, ⟨hx.kk g1 (by omega), hx.nn g1 (by omega) g2⟩, ⟨hx.kk i1 (by omega), hx.nn i1 (by omega) i2⟩⟩
theorem Shp.nx (h : Shp N) (hx : NXc N N') : Shp N' := by
  obtain ⟨⟨a0, a1, a2, a3, a4, a5, a6, a7, a8, a9, a10⟩, ⟨b0, b1, b2, b3⟩, ⟨c0, c1, c2, c3, c4, c5, ⟨c6, c7⟩, ⟨c8, c9⟩, ⟨c10, c11⟩⟩, ⟨w1, w2, w3, w4⟩, ⟨d0, d1, d2⟩, ⟨e0, e1, e2, e3, ⟨e4, e5⟩, ⟨e6, e7⟩⟩, ⟨f0, f1, ⟨f2, f3⟩, f4⟩, ⟨g1, g2⟩, m1, ⟨o1, o2⟩, ⟨z1, z2⟩⟩ := h
  have r0 : ∀ {k r : Nat}, kR N 1000 k = r → kR N' 1000 k = r := fun e => hx.rr a0 (by omega) (by omega) (by omega) (fun z => by omega) e
  have r3 : ∀ {k r : Nat}, kR N 1003 k = r → kR N' 1003 k = r := fun e => hx.rr c0 (by omega) (by omega) (by omega) (fun z => by omega) e
  have r73 : ∀ {k r : Nat}, kR N 1073 k = r → kR N' 1073 k = r := fun e => hx.rr d0 (by omega) (by omega) (by omega) (fun z => by omega) e
  have r74 : ∀ {k r : Nat}, kR N 1074 k = r → kR N' 1074 k = r := fun e => hx.rr e0 (by omega) (by omega) (by omega) (fun z => by omega) e
  refine ⟨⟨hx.kk a0 (by omega), r0 a1, r0 a2, r0 a3, r0 a4, r0 a5, r0 a6, r0 a7, r0 a8, r0 a9, r0 a10⟩, ⟨hx.kk b0 (by omega), hx.rr b0 (by omega) (by omega) (by omega) (fun z => by omega) b1, hx.kk b2 (by omega), hx.nn b2 (by omega) b3⟩, ⟨hx.kk c0 (by omega), r3 c1, r3 c2, r3 c3, r3 c4, r3 c5, ⟨hx.kk c6 (by omega), hx.nn c6 (by omega) c7⟩, ⟨hx.kk c8 (by omega), hx.nn c8 (by omega) c9⟩, ⟨hx.kk c10 (by omega), hx.nn c10 (by omega) c11⟩⟩, ⟨w1.nx hx (by omega) (by omega), w2.nx hx (by omega) (by omega), w3.nx hx (by omega) (by omega), fun i hi => (w4 i hi).nx hx (by omega) (by omega)⟩, ⟨hx.kk d0 (by omega), r73 d1, r73 d2⟩, ⟨hx.kk e0 (by omega), r74 e1, r74 e2, r74 e3, ⟨hx.kk e4 (by omega), hx.nn e4 (by omega) e5⟩, ⟨hx.kk e6 (by omega), hx.nn e6 (by omega) e7⟩⟩, ⟨hx.kk f0 (by omega), hx.rr f0 (by omega) (by omega) (by omega) (fun z => by omega) f1, ⟨hx.kk f2 (by omega), hx.nn f2 (by omega) f3⟩, fun i hi => hx.rr f2 (by omega) (by omega) (by omega) (fun z => by omega) (f4 i hi)⟩, ⟨g1.nx hx (by omega) (by omega), g2.nx hx (by omega) (by omega)⟩, m1.nx hx, ⟨hx.kk o1 (by omega), hx.nn o1 (by omega) o2⟩, Nat.le_trans z1 hx.2.2.1, hx.2.2.2⟩
/-- where a law lies -/
def LZp (N : NM) (p : Nat) : Prop := (1538 ≤ p ∧ kR N p 3 = p + 1 ∧ kR N p 1 = p + 2 ∧ kR N p 2 = p + 3) ∨ ((p = 1034 ∨ p = 1067 ∨ p = 1512 ∨ ∃ i, i < 12 ∧ p = 1106 + 33 * i) ∧ kR N p 3 = p + 3 ∧ kR N p 1 = p + 4 ∧ kR N p 2 = p + 5)
def LW (N : NM) (I : IM) (p : Nat) (W : Nat → Int32) (P : List lnT) : Prop := LawR N I p W P ∧ LZp N p
/-- rows of laws -/
def LZx (x : Nat) : Prop := 1538 ≤ x ∨ (1034 ≤ x ∧ x < 1040) ∨ (1067 ≤ x ∧ x < 1073) ∨ (1512 ≤ x ∧ x < 1518) ∨ ∃ i, i < 12 ∧ 1106 + 33 * i ≤ x ∧ x < 1112 + 33 * i
theorem LZp.x (h : LZp N p) : LZx p ∧ LZx (kR N p 1) ∧ LZx (kR N p 2) ∧ LZx (kR N p 3) := by
  have key : ∀ y, y ≤ 5 → (p = 1034 ∨ p = 1067 ∨ p = 1512 ∨ ∃ i, i < 12 ∧ p = 1106 + 33 * i) → LZx (p + y) := by
    intro y hy h
    rcases h with rfl | rfl | rfl | ⟨i, hi, rfl⟩
    · exact Or.inr (Or.inl (by omega))
    · exact Or.inr (Or.inr (Or.inl (by omega)))
    · exact Or.inr (Or.inr (Or.inr (Or.inl (by omega))))
    · exact Or.inr (Or.inr (Or.inr (Or.inr ⟨i, hi, by omega, by omega⟩)))
  rcases h with ⟨h1, e3, e1, e2⟩ | ⟨h1, e3, e1, e2⟩
  · rw [e1, e2, e3]
    exact ⟨Or.inl h1, Or.inl (by omega), Or.inl (by omega), Or.inl (by omega)⟩
  · rw [e1, e2, e3]
    exact ⟨key 0 (by omega) h1, key 4 (by omega) h1, key 5 (by omega) h1, key 3 (by omega) h1⟩
theorem LZx.ne {x : Nat} (h : LZx x) : ¬ (1000 ≤ x ∧ x < 1034) ∧ ¬ (1040 ≤ x ∧ x < 1067) ∧ ¬ (1073 ≤ x ∧ x < 1079) ∧ ¬ (1475 ≤ x ∧ x < 1512) ∧ ¬ (1518 ≤ x ∧ x < 1538) ∧ ∀ i, i < 12 → ¬ (1079 + 33 * i ≤ x ∧ x < 1106 + 33 * i) := by
  rcases h with h | h | h | h | ⟨j, hj, h1, h2⟩
  all_goals refine ⟨by omega, by omega, by omega, by omega, by omega, fun i hi => by omega⟩
theorem LZp.dis (h : LZp N p) : DIS 1007 N p ∧ DIS 1040 N p ∧ DIS 1485 N p ∧ ∀ i, i < 12 → DIS (1079 + 33 * i) N p := by
  obtain ⟨x0, x1, x2, x3⟩ := h.x
  refine ⟨fun c h1 h2 => ⟨?_, ?_, ?_⟩, fun c h1 h2 => ⟨?_, ?_, ?_⟩, fun c h1 h2 => ⟨?_, ?_, ?_⟩, fun i hi c h1 h2 => ⟨?_, ?_, ?_⟩⟩
  all_goals rintro rfl
  all_goals first
    | (have := x0.ne; omega)
    | (have := x2.ne; omega)
    | (have := x3.ne; omega)
    | exact x0.ne.2.2.2.2.2 i hi ⟨h1, by omega⟩
    | exact x2.ne.2.2.2.2.2 i hi ⟨h1, by omega⟩
    | exact x3.ne.2.2.2.2.2 i hi ⟨h1, by omega⟩
/-- a law stays, where its rows stay -/
theorem LW.rows {W : Nat → Int32} (h : LW N I p W P) (f : ∀ c j, LZx c → I' c j = I c j) : LW N I' p W P := by
  obtain ⟨⟨⟨h1, h2, h3, h4, h5, h6⟩, l2, l3, l4, l5⟩, hz⟩ := h
  obtain ⟨x0, x1, x2, x3⟩ := hz.x
  refine ⟨⟨⟨h1, h2, h3, h4, h5, fun j x hx => ⟨(h6 j x hx).1, (h6 j x hx).2.1, ?_⟩⟩, l2, l3, l4, ?_⟩, hz⟩
  · rw [f _ _ x2]; exact (h6 j x hx).2.2
  · rw [f _ _ x0]; exact l5
/-- a law stays, where another's scratch changes -/
theorem LW.other {W : Nat → Int32} {p' : Nat} {P' : List lnT} {W' : Nat → Int32} (h : LW N I p' W' P') (hq : LW N I p W P) (f : ∀ c j, LZx c → c ≠ kR N p 3 → ¬ (c = p ∧ j = 4) → I' c j = I c j) : LW N I' p' W' P' := by
  obtain ⟨⟨⟨h1, h2, h3, h4, h5, h6⟩, l2, l3, l4, l5⟩, hz⟩ := h
  obtain ⟨x0, x1, x2, x3⟩ := hz.x
  have hq1 := hq.1.1
  have hqz := hq.2
  have d1 : kR N p' 2 ≠ kR N p 3 := by
    by_cases e : p' = p
    · rw [e]; exact fun z => hq1.1.2 z.symm
    · intro z
      have k1 := h2.1
      have k2 := hq1.1.1
      rcases hz with ⟨y1, y3, y4, y5⟩ | ⟨y1, y3, y4, y5⟩ <;> rcases hqz with ⟨q1, q3, q4, q5⟩ | ⟨q1, q3, q4, q5⟩
      · have e2 : p = p' + 2 := by omega
        rw [y4, ← e2, k2] at k1
        cases k1
      · rcases q1 with q1 | q1 | q1 | ⟨i, hi, q1⟩ <;> omega
      · rcases y1 with y1 | y1 | y1 | ⟨i, hi, y1⟩ <;> omega
      · rcases q1 with q1 | q1 | q1 | ⟨i, hi, q1⟩ <;> rcases y1 with y1 | y1 | y1 | ⟨i', hi', y1⟩ <;> omega
  have d2 : kR N p' 2 ≠ p := fun z => by
    have := h3.1
    rw [z, hq1.1.1] at this
    cases this
  have d3 : p' ≠ kR N p 3 := fun z => by
    have := hq1.2.2.2.1.1
    rw [← z, h1.1] at this
    cases this
  refine ⟨⟨⟨h1, h2, h3, h4, h5, fun j x hx => ⟨(h6 j x hx).1, (h6 j x hx).2.1, ?_⟩⟩, l2, l3, l4, ?_⟩, hz⟩
  · rw [f _ _ x2 d1 (fun z => d2 z.1)]; exact (h6 j x hx).2.2
  · rw [f _ _ x0 d3 (fun z => by omega)]; exact l5
theorem LW.nx {W : Nat → Int32} (h : LW N I p W P) (hx : NXc N N') : LW N' I p W P := by
  obtain ⟨⟨⟨h1, h2, h3, h4, h5, h6⟩, l2, l3, l4, l5⟩, hz⟩ := h
  obtain ⟨x0, x1, x2, x3⟩ := hz.x
  have n0 := x0.ne
  have n1 := x1.ne
  have rr : ∀ k, kR N' p k = kR N p k := fun k => hx.rr h1.1 (by omega) (by omega) (by omega) (fun z => by omega) rfl
  refine ⟨⟨⟨?_, ?_, ?_, ?_, h5, fun j x hx' => ⟨(h6 j x hx').1, ?_, ?_⟩⟩, l2, l3, l4, l5⟩, ?_⟩
  · rw [rr, rr]; exact ⟨hx.kk h1.1 (by omega), h1.2⟩
  · rw [rr]; exact ⟨hx.kk h2.1 (by omega), hx.nn h2.1 (by omega) h2.2⟩
  · rw [rr]; exact ⟨hx.kk h3.1 (by omega), hx.nn h3.1 (by omega) h3.2⟩
  · rw [rr]; exact ⟨hx.kk h4.1 (by omega), hx.nn h4.1 (by omega) h4.2⟩
  · rw [rr]; exact hx.rr h2.1 (by omega) (by omega) (by omega) (fun z => by omega) (h6 j x hx').2.1
  · rw [rr]; exact (h6 j x hx').2.2
  · unfold LZp; rw [rr, rr, rr]; exact hz
end INV
