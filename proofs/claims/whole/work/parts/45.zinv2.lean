/-! what holds between the calls, of both sides -/
def TPr (I J : IM) (L : Nat) : Prop := I 1001 1 = nI L ∧ J 1528 8 = nI L ∧ L ≤ 400 ∧ ∀ k, k < L → ∃ x, x < 256 ∧ I 1002 k = nI x ∧ J 1533 k = (nI x).toInt8.toInt32
def HSr (N : NM) (I J : IM) (g w p o h : Nat) : Prop := (o < 12 ∧ h ≤ 12) ∧ (I 1077 1 = nI o ∧ I 1077 2 = nI h ∧ J 1528 6 = nI h) ∧ ∀ i, i < h → WR (1079 + 33 * ((o + i) % 12)) I (fun k => J 1532 (285 * i + k)) g w ∧ kR N (1079 + 33 * ((o + i) % 12)) 19 = p ∧ J 1532 (285 * i + 3) = J 1529 3
def IMr (N : NM) (I J : IM) : Prop := (I 1000 10 = 0 ∧ J 1528 4 = 0) ∨ (I 1000 10 = 1 ∧ J 1528 4 = 1 ∧ ∃ g w p P n, WR 1485 I (J 1530) g w ∧ kR N 1485 19 = p ∧ LW N I p (J 1530) P ∧ CRl 1518 I (J 1530) g n)
def INVp (N : NM) (I : IM) (K : NM) (J : IM) (g w p : Nat) (P : List lnT) (n L o h : Nat) : Prop :=
  Shp N ∧ MN K ∧ WR 1007 I (J 1529) g w ∧ kR N 1007 19 = p ∧ LW N I p (J 1529) P ∧ CRl 1475 I (J 1529) g n ∧ TPr I J L ∧ I 1000 11 = J 1528 13 ∧ HSr N I J g w p o h ∧ IMr N I J
def INV2 (N : NM) (I : IM) (K : NM) (J : IM) : Prop := ∃ g w p P n L o h, INVp N I K J g w p P n L o h
/-- the one side leaves the other's rows, the other the one's -/
def FrC (I I' : IM) : Prop := ∀ c, 1528 ≤ c → c ≤ 1536 → I' c = I c
def FrM (J J' : IM) : Prop := ∀ c, ¬ (1528 ≤ c ∧ c ≤ 1536) → J' c = J c
section INW
variable {a b c d s g w k v q p n L o hh : Nat} {I I' I2 : IM} {W W' : Nat → Int32} {N N' N2 K : NM} {J J' J2 : IM} {M M' : Mem} {P : List lnT}
theorem FrC.id : FrC I I := fun _ _ _ => rfl
theorem FrC.trans (h : FrC I I') (h' : FrC I' I2) : FrC I I2 := fun c h1 h2 => (h' c h1 h2).trans (h c h1 h2)
theorem FrM.id : FrM J J := fun _ _ => rfl
theorem FrM.trans (h : FrM J J') (h' : FrM J' J2) : FrM J J2 := fun c h1 => (h' c h1).trans (h c h1)
theorem CRl.cong (h : CRl c I W g n) (f : ∀ r, c ≤ r → r < c + 9 → I' r = I r) (e : ∀ j, 285 ≤ j → W' j = W j) : CRl c I' W' g n := by
  obtain ⟨h1, h2, h3, h4⟩ := h
  refine ⟨h1, by rw [f c (by omega) (by omega)]; exact h2, by rw [e _ (by omega)]; exact h3, fun i hi => ?_⟩
  obtain ⟨l, l1, l2, l3, l4⟩ := h4 i hi
  refine ⟨l, l1, by rw [f _ (by omega) (by omega)]; exact l2, by rw [e _ (by omega)]; exact l3, fun k hk => ?_⟩
  rw [f _ (by omega) (by omega), e _ (by omega)]
  exact l4 k hk
theorem LW.fw (h : LW N I p W P) (f : FW W W') : LW N I p W' P := by
  obtain ⟨⟨l1, l2, l3, l4, l5⟩, hz⟩ := h
  refine ⟨⟨l1, l2, l3, l4.congr (fun j hj => f.2 j (by omega)), ?_⟩, hz⟩
  rw [f.1, f.2 364 (by omega)]
  exact l5
theorem TPr.cong (h : TPr I J L) (e1 : I' 1001 = I 1001) (e2 : I' 1002 = I 1002) (e3 : J' 1528 8 = J 1528 8) (e4 : J' 1533 = J 1533) : TPr I' J' L := by
  unfold TPr
  rw [e1, e2, e3, e4]
  exact h
theorem HSr.cong (h : HSr N I J g w p o hh) (e1 : I' 1077 = I 1077) (e2 : J' 1528 6 = J 1528 6) (e3 : J' 1532 = J 1532) (e4 : J' 1529 3 = J 1529 3) (f : ∀ c, 1079 ≤ c → c < 1475 → ¬ LZx c → I' c = I c) (r : ∀ i, i < 12 → kR N' (1079 + 33 * i) 19 = kR N (1079 + 33 * i) 19) : HSr N' I' J' g w p o hh := by
  obtain ⟨h1, h2, h3⟩ := h
  refine ⟨h1, by rw [e1, e2]; exact h2, fun i hi => ?_⟩
  rw [e3, e4]
  have hm : (o + i) % 12 < 12 := Nat.mod_lt _ (by omega)
  refine ⟨(h3 i hi).1.rows fun c c1 c2 => f c (by omega) (by omega) (fun z => z.ne.2.2.2.2.2 _ hm ⟨c1, by omega⟩), ?_⟩
  rw [r _ hm]
  exact (h3 i hi).2
theorem IMr.cong (h : IMr N I J) (hq : LW N I p W P) (e1 : I' 1000 10 = I 1000 10) (e2 : J' 1528 4 = J 1528 4) (e3 : J' 1530 = J 1530) (f : ∀ c, 1485 ≤ c → c < 1512 → I' c = I c) (f2 : ∀ c, 1518 ≤ c → c < 1527 → I' c = I c) (f3 : ∀ c j, LZx c → c ≠ kR N p 3 → ¬ (c = p ∧ j = 4) → I' c j = I c j) : IMr N I' J' := by
  unfold IMr
  rw [e1, e2, e3]
  rcases h with h | ⟨h1, h2, g, w, p', P', n, h3, h4, h5, h6⟩
  · exact Or.inl h
  · exact Or.inr ⟨h1, h2, g, w, p', P', n, h3.rows fun c c1 c2 => f c c1 (by omega), h4, h5.other hq f3, h6.cong (fun c c1 c2 => f2 c c1 (by omega)) (fun _ _ => rfl)⟩
/-- acts, questions: scratch rows and the two worlds change -/
theorem INVp.soft (h : INVp N I K J g w p P n L o hh) (fi : ∀ c j, ¬ (1007 ≤ c ∧ c < 1034) → c ≠ kR N p 3 → ¬ (c = p ∧ j = 4) → c ≠ 1484 → I' c j = I c j)
    (fj : ∀ c j, c ≠ 1529 → c ≠ 1535 → c ≠ 1536 → ¬ (c = 1528 ∧ (j = 0 ∨ j = 17 ∨ j = 18)) → J' c j = J c j) (fw : FW (J 1529) (J' 1529)) (hw : WR 1007 I' (J' 1529) g w) : INVp N I' K J' g w p P n L o hh ∧ FrC I I' ∧ FrM J J' := by
  obtain ⟨h1, h2, h3, h4, h5, h6, h7, h8, h9, h10⟩ := h
  obtain ⟨x0, x1, x2, x3⟩ := h5.2.x
  have n0 := x0.ne
  have n3 := x3.ne
  have fr : ∀ c, c < 1528 ∨ c < 1537 → ¬ (1007 ≤ c ∧ c < 1034) → c ≠ 1484 → ¬ LZx c → I' c = I c := fun c _ z1 z2 z3 => funext fun j => fi c j z1 (fun e => z3 (e ▸ x3)) (fun e => z3 (e.1 ▸ x0)) z2
  have nz : ∀ c, (1000 ≤ c ∧ c < 1034) ∨ (1040 ≤ c ∧ c < 1067) ∨ (1073 ≤ c ∧ c < 1079) ∨ (1475 ≤ c ∧ c < 1512) ∨ (1518 ≤ c ∧ c < 1538) → ¬ LZx c := fun c hc z => by have := z.ne; omega
  refine ⟨⟨h1, h2, hw, h4, ?_, ?_, ?_, ?_, ?_, ?_⟩, fun c c1 c2 => fr c (by omega) (by omega) (by omega) (nz c (by omega)), fun c hc => funext fun j => fj c j (by omega) (by omega) (by omega) (by omega)⟩
  · exact (h5.other h5 fun c j z z1 z2 => fi c j (by have := z.ne; omega) z1 z2 (by have := z.ne; omega)).fw fw
  · exact h6.cong (fun r r1 r2 => fr r (by omega) (by omega) (by omega) (nz r (by omega))) (fun j hj => fw.2 j hj)
  · exact h7.cong (fr _ (by omega) (by omega) (by omega) (nz _ (by omega))) (fr _ (by omega) (by omega) (by omega) (nz _ (by omega))) (fj _ _ (by omega) (by omega) (by omega) (by omega)) (funext fun j => fj _ _ (by omega) (by omega) (by omega) (by omega))
  · rw [fr 1000 (by omega) (by omega) (by omega) (nz _ (by omega)), fj 1528 13 (by omega) (by omega) (by omega) (by omega)]; exact h8
  · exact h9.cong (fr _ (by omega) (by omega) (by omega) (nz _ (by omega))) (fj _ _ (by omega) (by omega) (by omega) (by omega)) (funext fun j => fj _ _ (by omega) (by omega) (by omega) (by omega)) fw.1 (fun c c1 c2 c3 => fr c (by omega) (by omega) (by omega) c3) (fun _ _ => rfl)
  · refine h10.cong h5 (by rw [fr 1000 (by omega) (by omega) (by omega) (nz _ (by omega))]) (fj _ _ (by omega) (by omega) (by omega) (by omega)) (funext fun j => fj _ _ (by omega) (by omega) (by omega) (by omega)) (fun c c1 c2 => fr c (by omega) (by omega) (by omega) (nz _ (by omega))) (fun c c1 c2 => fr c (by omega) (by omega) (by omega) (nz _ (by omega))) (fun c j z z1 z2 => fi c j (by have := z.ne; omega) z1 z2 (by have := z.ne; omega))
/-- only what is thrown changes -/
theorem INVp.thr (h : INVp N I K J g w p P n L o hh) (x : Int32) : INVp N I K (u2 J 1528 0 x) g w p P n L o hh ∧ FrM J (u2 J 1528 0 x) := by
  have e : u2 J 1528 0 x 1529 = J 1529 := u2_o _ _ _ _ (by omega)
  have := h.soft (I' := I) (J' := u2 J 1528 0 x) (fun _ _ _ _ _ _ => rfl) (fun c j z1 z2 z3 z4 => u2_n _ _ _ _ (by omega)) (by rw [e]; exact FW.id) (by rw [e]; exact h.2.2.1)
  exact ⟨this.1, this.2.2⟩
/-- the one side throws -/
theorem INVp.exc (h : INVp N I K J g w p P n L o hh) : ∃ I' N', pNew (I, N) 30 0 = (I', N') ∧ INVp N' I' K J g w p P n L o hh ∧ FrC I I' := by
  obtain ⟨h1, h2, h3, h4, h5, h6, h7, h8, h9, h10⟩ := h
  obtain ⟨hz1, hz2⟩ := h1.2.2.2.2.2.2.2.2.2.2
  obtain ⟨I', N', e⟩ : ∃ I' N', pNew (I, N) 30 0 = (I', N') := ⟨_, _, rfl⟩
  have eI : I' = fun b => if b = kZ N then fun _ => 0 else I b := (congrArg Prod.fst e).symm
  have eN : N' = (fun b => if b = kZ N then fun _ => 0 else N.1 b, fun b => if b = kZ N then fun _ => 0 else N.2.1 b, fun b => if b = kZ N then (30, 0) else N.2.2.1 b, kZ N + 1) := (congrArg Prod.snd e).symm
  have fI : ∀ c, c ≠ kZ N → I' c = I c := fun c hc => by rw [eI]; exact if_neg hc
  have eS : ∀ b, kS N' b = if b = kZ N then 30 else kS N b := fun b => by
    rw [eN]
    show (if b = kZ N then (30, 0) else N.2.2.1 b).1 = _
    by_cases z : b = kZ N
    · rw [if_pos z, if_pos z]
    · rw [if_neg z, if_neg z]; rfl
  have hx : NXc N N' := by
    refine ⟨fun b hb => ?_, fun b k hb _ _ _ => ?_, ?_, fun b hb => ?_⟩
    · have hne : b ≠ kZ N := fun z => hb (hz2 b (by omega))
      refine ⟨by rw [eS, if_neg hne], ?_⟩
      rw [eN]
      show (if b = kZ N then (30, 0) else N.2.2.1 b).2 = _
      rw [if_neg hne]; rfl
    · have hne : b ≠ kZ N := fun z => hb (hz2 b (by omega))
      rw [eN]
      show (if b = kZ N then fun _ => 0 else N.1 b) k = _
      rw [if_neg hne]; rfl
    · rw [eN]; exact Nat.le_succ _
    · rw [eN] at hb
      have hb : kZ N + 1 ≤ b := hb
      rw [eS, if_neg (by omega)]
      exact hz2 b (by omega)
  have fr : ∀ c, c < 1538 → I' c = I c := fun c hc => fI c (by omega)
  have r19 : ∀ x, x < 1538 → kR N' x 19 = kR N x 19 := fun x hx' => by
    rw [eN]
    show (if x = kZ N then fun _ => 0 else N.1 x) 19 = _
    rw [if_neg (by omega)]; rfl
  have lw : ∀ {p : Nat} {W : Nat → Int32} {P : List lnT}, LW N I p W P → LW N' I' p W P := fun {p W P} hl => by
    have hl1 := hl.nx hx
    obtain ⟨⟨⟨q1, q2, q3, q4, q5, q6⟩, l2, l3, l4, l5⟩, hz⟩ := hl
    have e1 : p ≠ kZ N := fun z => by have := hz2 p (by omega); rw [q1.1] at this; cases this
    have e2 : kR N p 2 ≠ kZ N := fun z => by have := hz2 (kR N p 2) (by omega); rw [q3.1] at this; cases this
    obtain ⟨⟨⟨y1, y2, y3, y4, y5, y6⟩, m2, m3, m4, m5⟩, hz'⟩ := hl1
    have r2 : kR N' p 2 = kR N p 2 := hx.rr q1.1 (by omega) (by have := hz.x.1.ne; omega) (by have := hz.x.1.ne; omega) (fun z => by omega) rfl
    refine ⟨⟨⟨y1, y2, y3, y4, y5, fun j x hxx => ⟨(y6 j x hxx).1, (y6 j x hxx).2.1, ?_⟩⟩, m2, m3, m4, ?_⟩, hz'⟩
    · rw [r2, fI _ e2, ← r2]; exact (y6 j x hxx).2.2
    · rw [fI _ e1]; exact m5
  refine ⟨I', N', e, ⟨h1.nx hx, h2, h3.rows fun c c1 c2 => fr c (by omega), by rw [r19 _ (by omega)]; exact h4, lw h5, h6.cong (fun r r1 r2 => fr r (by omega)) (fun _ _ => rfl), h7.cong (fr _ (by omega)) (fr _ (by omega)) rfl rfl, by rw [fr _ (by omega)]; exact h8, h9.cong (fr _ (by omega)) rfl rfl rfl (fun c c1 c2 _ => fr c (by omega)) (fun i hi => r19 _ (by omega)), ?_⟩, fun c c1 c2 => fr c (by omega)⟩
  unfold IMr
  rw [fr _ (by omega)]
  rcases h10 with h | ⟨g1, g2, g, w, p', P', n, g3, g4, g5, g6⟩
  · exact Or.inl h
  · exact Or.inr ⟨g1, g2, g, w, p', P', n, g3.rows fun c c1 c2 => fr c (by omega), by rw [r19 _ (by omega)]; exact g4, lw g5, g6.cong (fun r r1 r2 => fr r (by omega)) (fun _ _ => rfl)⟩
end INW
