/-! the chance of one at a gate, by both; guesses; days by draws -/
section CHN
variable {a g w k v q p wt : Nat} {I I' I2 : IM} {W W' : Nat → Int32} {N K : NM} {J : IM} {M M' : Mem} {P : List lnT}
/-- the law of both sides has the lines P -/
def LawR (N : NM) (I : IM) (p : Nat) (W : Nat → Int32) (P : List lnT) : Prop :=
  LawP N I p (P.flatMap flat) ∧ P.length ≤ 12 ∧ (∀ ln, ln ∈ P → lnOK ln) ∧ MLn W 0 0 P ∧ ((W 3 = 1 ∧ W 364 = nI P.length ∧ I p 0 = nI P.length) ∨ (W 3 = 0 ∧ P = [] ∧ I p 0 = -1))
/-- the law at p lies apart from the world at a -/
def DIS (a : Nat) (N : NM) (p : Nat) : Prop := ∀ c, a ≤ c → c < a + 27 → c ≠ p ∧ c ≠ kR N p 3 ∧ c ≠ kR N p 2
theorem WR.rows (h : WR a I W g w) (f : ∀ c, a ≤ c → c < a + 27 → I' c = I c) : WR a I' W g w := by
  have h8 := h.w8
  have h12 := h.g12
  obtain ⟨h1, h2, h3, h4, h5⟩ := h
  refine ⟨h1, ?_, fun k hk => (h3 k hk).congr (congrFun (f _ (by omega) (by omega)) _) (congrFun (f _ (by omega) (by omega)) _) (congrFun (f _ (by omega) (by omega)) _) (fun j hj => rfl), fun k hk => (h4 k hk).congr (fun j _ _ => congrFun (f _ (by omega) (by omega)) _) (congrFun (f _ (by omega) (by omega)) _) (fun q _ => congrFun (f _ (by omega) (by omega)) _) (fun q _ => congrFun (f _ (by omega) (by omega)) _) h12 (fun j hj => rfl), fun k hk hk8 => (h5 k hk hk8).congr (fun j _ _ => congrFun (f _ (by omega) (by omega)) _) (congrFun (f _ (by omega) (by omega)) _) (fun q _ => congrFun (f _ (by omega) (by omega)) _)⟩
  unfold WA at h2 ⊢
  rw [f a (by omega) (by omega)]
  exact h2
theorem FLw.rows (h : FLw p (kR N p 3) I I') (hd : DIS a N p) : ∀ c, a ≤ c → c < a + 27 → I' c = I c := fun c h1 h2 => funext fun j => h c j (hd c h1 h2).2.1 (fun e => (hd c h1 h2).1 e.1)
def chV (a : Nat) (I : IM) (v q : Nat) (P : List lnT) : Int32 := chM (factV a I v q) (I (a + 6) v) P 0
theorem chV_cong (h1 : I' (a + 1) = I (a + 1)) (h2 : I' (a + 2) = I (a + 2)) (h0 : I' a 16 = I a 16) (h5 : I' (a + 5) = I (a + 5)) (h7 : I' (a + 7) = I (a + 7)) (h6 : I' (a + 6) = I (a + 6)) : chV a I' v q P = chV a I v q P := by
  unfold chV
  rw [h6, show factV a I' v q = factV a I v q from funext fun c => funext fun x => factV_cong h1 h2 h0 h5 h7 h6]
theorem sum_nn {fv : Nat → Int32 → Int32} (h7 : ∀ y, fv 7 y = 0 ∨ fv 7 y = 1) : ∀ {P : List lnT} (m : Nat) (n : Int32), (∀ ln, ln ∈ P → lnOK ln) → ∃ m', m' ≤ m + 999 * P.length ∧ ((P.flatMap flat).foldl (cst fv) (nI m, n, [])).1 = nI m'
  | [], m, n, _ => ⟨m, by simp, rfl⟩
  | ln :: P, m, n, h => by
    have hl := h ln List.mem_cons_self
    obtain ⟨z, hz, ez⟩ := hl.2.2
    rw [List.flatMap_cons, List.foldl_append, fold_flat h7 hl]
    have : ∃ m1, m1 ≤ m + 999 ∧ nI m + (if hld fv ln.2.2 = true ∧ ln.1 = true then ln.2.1 else 0) = nI m1 := by
      by_cases c : hld fv ln.2.2 = true ∧ ln.1 = true
      · rw [if_pos c, ez, nI_add]; exact ⟨m + z, by omega, rfl⟩
      · rw [if_neg c]; exact ⟨m, by omega, Int32.add_zero _⟩
    obtain ⟨m1, h1, e1⟩ := this
    rw [e1]
    obtain ⟨m', h2, e2⟩ := sum_nn h7 (P := P) m1 _ fun x hx => h x (List.mem_cons_of_mem _ hx)
    exact ⟨m', by simp only [List.length_cons]; omega, e2⟩
theorem nI_m1 {n : Nat} (h : n < 2 ^ 31) : (nI n = -1) = False := eq_false fun z => by
  have := congrArg Int32.toInt z
  rw [nI_toInt h] at this
  have e1 : (-1 : Int32).toInt = -1 := by decide
  omega
theorem c_chance (hw : WR a I W g w) (hn : WN N a) (hv : v < w) (hq : q < 12) (hp : kR N a 19 = p) (hl : LawR N I p W P) (hd : DIS a N p) :
    E1 (F_World_chanceOf a (nI v) (nI q) (I, N)) (fun u => ∃ I', u = (chV a I v q P, (I', N)) ∧ FLw p (kR N p 3) I I') := by
  have h8 := hw.w8
  have hv8 : v < 8 := by omega
  obtain ⟨l1, l2, l3, l4, l5⟩ := hl
  unfold F_World_chanceOf
  simp only [Option.bind_some, reduceIte, if_true, if_false, Bool.false_eq_true, ck_tt, v_fR (wa_k hn), hp, v_qS, l1.1.1]
  refine E1.bind (c_burden hn hv8 hq l1 (fun c h1 h2 => ⟨(hd c h1 h2).1, (hd c h1 h2).2.1⟩) (flats_ty l3)) ?_
  rintro u ⟨I', rfl, hF⟩
  have hro := hF.rows hd
  have key := chM_fold (fv := factV a I v q) (fun y => fact7) (I (a + 6) v) (P := P) 0 0 l3
  rw [if_pos rfl] at key
  have e6 : I' (a + 6) = I (a + 6) := hro _ (by omega) (by omega)
  obtain ⟨m', hm', em'⟩ := sum_nn (fv := factV a I v q) (fun y => fact7) (P := P) 0 0 l3
  have em' : ((P.flatMap flat).foldl (cst (factV a I v q)) (0, 0, [])).1 = nI m' := em'
  show E1 _ (fun u => ∃ I', u = (chM (factV a I v q) (I (a + 6) v) P 0, (I', N)) ∧ FLw p (kR N p 3) I I')
  rw [← key]
  by_cases hne : ((P.flatMap flat).foldl (cst (factV a I v q)) (0, 0, [])).2.1 = 0
  · simp only [hne, Option.bind_some, reduceIte, if_true, if_false, Bool.false_eq_true, ck_tt, em', nI_m1 (show m' < 2 ^ 31 by omega), wa_r7 hn, wa_w6 hn hv8, e6]
    exact E1.ok ⟨I', rfl, hF⟩
  · simp only [hne, Option.bind_some, reduceIte, if_true, if_false, Bool.false_eq_true, ck_tt]
    exact E1.ok ⟨I', rfl, hF⟩
theorem mo_chance (h : WR a I W g w) (hm : MN K) (hv : v < w) (hq : q < g) (hl : LawR N I p W P) :
    E1 (F_Mo_chanceOf 1528 (nI v) (nI q) (rowI J 1529 W, K)) (fun u => ∃ J', u = (chV a I v q P, (rowI J' 1529 W, K)) ∧ ∀ c, c ≠ 1535 → J' c = J c) := by
  have h8 := h.w8
  have hv8 : v < 8 := by omega
  obtain ⟨l1, l2, l3, l4, l5⟩ := hl
  have e6 := (h.oc hv).1.2.2.1
  unfold F_Mo_chanceOf
  refine E1.bind (P := fun u => (∃ s J', u = Sum.inl (s, (rowI J' 1529 W, K)) ∧ mMax 0 (I (a + 6) v - s) = chV a I v q P ∧ ∀ c, c ≠ 1535 → J' c = J c) ∨ ∃ J', u = Sum.inr (0, (rowI J' 1529 W, K)) ∧ chV a I v q P = 0 ∧ ∀ c, c ≠ 1535 → J' c = J c) ?_ ?_
  · refine lq1 (fun n s => ∃ (rest : List lnT) (o : Nat) (sum : Int32) (J1 : IM), s = (sum, nI n, (rowI J1 1529 W, K)) ∧ P.drop n = rest ∧ MLn W n o rest ∧ chM (factV a I v q) (I (a + 6) v) rest sum = chV a I v q P ∧ ∀ c, c ≠ 1535 → J1 c = J c) _ P.length (lim_lt (by omega)) (Nat.zero_le _) ⟨P, 0, 0, J, rfl, rfl, l4, rfl, fun _ _ => rfl⟩ ?_ ?_
    · rintro n s hn ⟨rest, o, sum, J1, rfl, hdr, hml, hch, hfr⟩
      cases rest with
      | nil =>
        have := congrArg List.length hdr
        simp at this
        omega
      | cons ln r =>
        obtain ⟨hx, hdr2⟩ := drop_at hdr
        have hmem : ln ∈ P := List.mem_of_getElem? hx
        obtain ⟨o1, o2, z, hz, ez⟩ := l3 ln hmem
        obtain ⟨⟨m1, m2, m3⟩, m4, m5, m6⟩ := hml
        rcases l5 with ⟨w3, w364, -⟩ | ⟨-, hP, -⟩
        · simp only [Option.bind_some, reduceIte, if_true, if_false, Bool.false_eq_true, ck_tt, v_qS, mo_k hm, mw_f hm, mo_r1 hm, mw_gates hm, mw_walkers hm, mw_a hm (show (3 : Int32) = nI 3 from rfl) (show 3 < 2038 by omega), w3, mw_a hm (show (364 : Int32) = nI 364 from rfl) (show 364 < 2038 by omega), w364, cm_leF hn (nat_31 (n := P.length) (by omega))]
          refine E1.bind (m_holds h hm hv hq (by omega) m2 m3 m4 m5 o2 o1) ?_
          rintro _ ⟨J', rfl, hfr'⟩
          rw [chM_cons] at hch
          have hfr2 : ∀ c, c ≠ 1535 → J' c = J c := fun c hc => (hfr' c hc).trans (hfr c hc)
          cases hh : hld (factV a I v q) ln.2.2 with
          | false =>
            rw [hh] at hch
            simp only [Option.bind_some, reduceIte, if_true, if_false, Bool.false_eq_true, ck_tt, i32_00]
            exact E1.ok ⟨r, _, sum, J', Prod.ext rfl (Prod.ext (nI_1 n) rfl), hdr2, m6, by rw [← hch]; rfl, hfr2⟩
          | true =>
            rw [hh, if_pos rfl] at hch
            simp only [Option.bind_some, reduceIte, if_true, if_false, Bool.false_eq_true, ck_tt, i32_10, v_qS, mo_k hm, mw_f hm, mo_r1 hm, mw_gates hm, mw_walkers hm, mw_a hm (show (365 : Int32) + (3 : Int32) * nI n = nI (365 + 3 * n) by rw [show (3 : Int32) = nI 3 from rfl, pk_mul]; exact nI_add 365 (3 * n)) (by omega), m1]
            cases hd : ln.1 with
            | true =>
              rw [hd, if_pos rfl] at hch
              rw [if_pos rfl, ez]
              simp only [show ((0 : Int32) ≤ nI z) = True from eq_true (nI_pos' (by omega)), Option.bind_some, reduceIte, if_true, if_false, Bool.false_eq_true, ck_tt]
              rw [ez] at hch
              exact E1.ok ⟨r, _, sum + nI z, J', Prod.ext rfl (Prod.ext (nI_1 n) rfl), hdr2, m6, hch, hfr2⟩
            | false =>
              rw [hd] at hch
              have hch : (0 : Int32) = chV a I v q P := hch
              simp (decide := true) only [Option.bind_some, reduceIte, if_true, if_false, Bool.false_eq_true, ck_tt]
              exact E1.ok (Or.inr ⟨J', rfl, hch.symm, hfr2⟩)
        · rw [hP] at hmem; cases hmem
    · rintro s ⟨rest, o, sum, J1, rfl, hdr, hml, hch, hfr⟩
      have hr : rest = [] := by rw [← hdr, List.drop_length]
      subst hr
      have hch : mMax 0 (I (a + 6) v - sum) = chV a I v q P := hch
      rcases l5 with ⟨w3, w364, -⟩ | ⟨w3, hP, -⟩
      · simp only [Option.bind_some, reduceIte, if_true, if_false, Bool.false_eq_true, ck_tt, v_qS, mo_k hm, mw_f hm, mo_r1 hm, mw_gates hm, mw_walkers hm, mw_a hm (show (3 : Int32) = nI 3 from rfl) (show 3 < 2038 by omega), w3, mw_a hm (show (364 : Int32) = nI 364 from rfl) (show 364 < 2038 by omega), w364, cm_leT (Nat.le_refl P.length) (nat_31 (n := P.length) (by omega))]
        exact E1.ok (Or.inl ⟨sum, J1, rfl, hch, hfr⟩)
      · simp only [Option.bind_some, reduceIte, if_true, if_false, Bool.false_eq_true, ck_tt, v_qS, mo_k hm, mw_f hm, mo_r1 hm, mw_gates hm, mw_walkers hm, mw_a hm (show (3 : Int32) = nI 3 from rfl) (show 3 < 2038 by omega), w3, i32_01]
        exact E1.ok (Or.inl ⟨sum, J1, rfl, hch, hfr⟩)
  · rintro u (⟨s, J', rfl, he, hfr⟩ | ⟨J', rfl, he, hfr⟩)
    · simp only [Sum.elim_inl, Option.bind_some, reduceIte, if_true, if_false, Bool.false_eq_true, ck_tt, v_qS, mo_k hm, mw_f hm, mo_r1 hm, mw_gates hm, mw_walkers hm, mw_of0 hm hv8, mw_of1 hm hv8, mw_of2 hm hv8, mw_of3 hm hv8, mw_of4 hm hv8, mw_of5 hm hv8, mw_st0 hm hv8, mw_st1 hm hv8, mw_st2 hm hv8, mw_st3 hm hv8, mw_st4 hm hv8, mw_st5 hm hv8, e6]
      exact E1.ok ⟨J', by rw [he], hfr⟩
    · rw [he]
      exact E1.ok ⟨J', rfl, hfr⟩
/-- both go on, the law's and the other side's scratch rows aside -/
def FV (a : Nat) (N : NM) (p : Nat) (I I' : IM) : Prop := ∀ c j, ¬ (a ≤ c ∧ c < a + 27) → c ≠ kR N p 3 → ¬ (c = p ∧ j = 4) → I' c j = I c j
theorem FV.trans (h : FV a N p I I') (h' : FV a N p I' I2) : FV a N p I I2 := fun c j h1 h2 h3 => (h' c j h1 h2 h3).trans (h c j h1 h2 h3)
theorem FV.id : FV a N p I I := fun _ _ _ _ _ => rfl
theorem FV.ofFr (h : Fr a I I') : FV a N p I I' := fun c j h1 _ _ => congrFun (h c h1) j
theorem FV.ofL (h : FLw p (kR N p 3) I I') : FV a N p I I' := fun c j _ h2 h3 => h c j h2 h3
def F5 (J J' : IM) : Prop := ∀ c, c ≠ 1535 → J' c = J c
theorem F5.trans {J J' J2 : IM} (h : F5 J J') (h' : F5 J' J2) : F5 J J2 := fun c hc => (h' c hc).trans (h c hc)
theorem F5.id {J : IM} : F5 J J := fun _ _ => rfl
def MV (a p : Nat) (N : NM) (I : IM) (K : NM) (J : IM) (W : Nat → Int32) (g w : Nat) (P : List lnT) (M M' : Mem) : Prop := ∃ I' W' J', M = (I', N) ∧ M' = (rowI J' 1529 W', K) ∧ (FV a N p I I' ∧ FW W W' ∧ F5 J J') ∧ WR a I' W' g w ∧ LawR N I' p W' P
theorem LawR.fv (h : LawR N I p W P) (hd : DIS a N p) (hF : FV a N p I I') (hW : FW W W') : LawR N I' p W' P := by
  obtain ⟨⟨h1, h2, h3, h4, h5, h6⟩, l2, l3, l4, l5⟩ := h
  have d1 : ¬ (a ≤ p ∧ p < a + 27) := fun e => (hd p e.1 e.2).1 rfl
  have d2 : ¬ (a ≤ kR N p 2 ∧ kR N p 2 < a + 27) := fun e => (hd _ e.1 e.2).2.2 rfl
  have d3 : p ≠ kR N p 3 := fun e => by
    have := h4.1
    rw [← e, h1.1] at this
    cases this
  have d4 : kR N p 2 ≠ p := fun e => by
    have := h3.1
    rw [e, h1.1] at this
    cases this
  refine ⟨⟨h1, h2, h3, h4, h5, fun j x hx => ⟨(h6 j x hx).1, (h6 j x hx).2.1, ?_⟩⟩, l2, l3, l4.congr (fun j hj => hW.2 j (by omega)), ?_⟩
  · rw [hF _ _ d2 (fun e => h1.2 e.symm) (fun e => d4 e.1)]
    exact (h6 j x hx).2.2
  · rw [hW.1, hW.2 364 (by omega), hF p 0 d1 d3 (by omega)]
    exact l5
theorem MV.ofMU (h : MU a N I K J W g w M M') (hl : LawR N I p W P) (hd : DIS a N p) : MV a p N I K J W g w P M M' := by
  obtain ⟨I', W', e1, e2, ⟨f1, f2⟩, h1⟩ := h
  exact ⟨I', W', J, e1, e2, ⟨.ofFr f1, f2, .id⟩, h1, hl.fv hd (.ofFr f1) f2⟩
theorem MV.mk {J' : IM} (h1 : FV a N p I I') (h2 : FW W W') (h3 : F5 J J') (h : WR a I' W' g w) (hl : LawR N I' p W' P) : MV a p N I K J W g w P (I', N) (rowI J' 1529 W', K) := ⟨I', W', J', rfl, rfl, ⟨h1, h2, h3⟩, h, hl⟩
theorem MV.to {J' : IM} (h : MV a p N I' K J' W' g w P M M') (h1 : FV a N p I I') (h2 : FW W W') (h3 : F5 J J') : MV a p N I K J W g w P M M' := by
  obtain ⟨I2, W2, J2, e1, e2, ⟨f1, f2, f3⟩, h4⟩ := h
  exact ⟨I2, W2, J2, e1, e2, ⟨h1.trans f1, h2.trans f2, h3.trans f3⟩, h4⟩
theorem draw_eq (x : Int32) : ((x.toUInt32 >>> ((16 : Int32).toUInt32 &&& Int32.toUInt32 31)).toInt32 &&& (32767 : Int32)) = ((x >>> ((16 : Int32) &&& 31)) &&& (32767 : Int32)) := by
  refine Int32.toBitVec_inj.mp (BitVec.eq_of_getLsbD_eq fun i hi => ?_)
  have e1 : (x.toUInt32 >>> ((16 : Int32).toUInt32 &&& Int32.toUInt32 31)).toInt32.toBitVec = x.toBitVec >>> 16 := rfl
  have e2 : (x >>> ((16 : Int32) &&& 31)).toBitVec = x.toBitVec.sshiftRight 16 := rfl
  have e3 : (32767 : Int32).toBitVec = BitVec.ofNat 32 (2 ^ 15 - 1) := rfl
  rw [Int32.toBitVec_and, Int32.toBitVec_and, e1, e2, BitVec.getLsbD_and, BitVec.getLsbD_and, BitVec.getLsbD_ushiftRight, BitVec.getLsbD_sshiftRight, e3, BitVec.getLsbD_ofNat, Nat.testBit_two_pow_sub_one]
  by_cases h : i < 15
  · simp [hi, h, show 16 + i < 32 by omega, show ¬ 32 ≤ i by omega]
  · simp [h]
/-- one guesses, the chance being ch -/
theorem r_guess (h : WR a I W g w) (hn : WN N a) (hm : MN K) (hv : v < w) {n : Nat} (he : I (a + 4) v = nI n) (hlt : n < g) (hl : LawR N I p W P) (hd : DIS a N p) :
    E2 (F_World_guessAnswer a (nI v) (chV a I v n P) (I, N)) (F_Mo_guesses 1528 (nI v) (rowI J 1529 W, K)) (fun u u' => u.1 = u'.1 ∧ (u.1 = 0 ∨ u.1 = 1) ∧ MV a p N I K J W g w P u.2 u'.2) := by
  have h8 := h.w8
  have h12 := h.g12
  have hv8 : v < 8 := by omega
  have e8 : W 8 = I a 18 := h.2.1.2.2.2.2.2.2.2
  have c0 := (h.oc hv).1.1
  unfold F_World_guessAnswer F_World_draw F_Mo_guesses
  simp only [Option.bind_some, reduceIte, if_true, if_false, Bool.false_eq_true, ck_tt, v_qS, wa_k hn, wa_f hn, wa_s hn, wa_r1 hn, wa_r2 hn, wa_r3 hn, wa_r5 hn, wa_r6 hn, wa_r7 hn, wa_r8 hn, wa_r9 hn, wa_r10 hn, wa_r11 hn, wa_w4 hn hv8, wa_w5 hn hv8, wa_w6 hn hv8, wa_w7 hn hv8, wa_w8 hn hv8, wa_t4 hn hv8, wa_t5 hn hv8, wa_t6 hn hv8, wa_t7 hn hv8, wa_t8 hn hv8, wa_q9 hn hv8, wa_q18 hn hv8, v_qS, mo_k hm, mw_f hm, mo_r1 hm, mw_gates hm, mw_walkers hm, mw_of0 hm hv8, mw_of1 hm hv8, mw_of2 hm hv8, mw_of3 hm hv8, mw_of4 hm hv8, mw_of5 hm hv8, mw_st0 hm hv8, mw_st1 hm hv8, mw_st2 hm hv8, mw_st3 hm hv8, mw_st4 hm hv8, mw_st5 hm hv8, he, c0, mw_a hm (show (8 : Int32) = nI 8 from rfl) (show 8 < 2038 by omega), mw_t hm (show (8 : Int32) = nI 8 from rfl) (show 8 < 2038 by omega), e8, u2_s, pk_us, draw_eq]
  have h1 := h.seed ((1103515245 : Int32) * I a 18 + (12345 : Int32))
  have hF1 : FV a N p I (u2 I a 18 ((1103515245 : Int32) * I a 18 + (12345 : Int32))) := .ofFr (fr_u2 Fr.id (by omega))
  have hW1 : FW W (upd W 8 ((1103515245 : Int32) * I a 18 + (12345 : Int32))) := FW.id.upd (by omega)
  have hl1 := hl.fv hd hF1 hW1
  have hch : chV a (u2 I a 18 ((1103515245 : Int32) * I a 18 + (12345 : Int32))) v n P = chV a I v n P := chV_cong (u2_o _ _ _ _ (by omega)) (u2_o _ _ _ _ (by omega)) (u2_n _ _ _ _ (by omega)) (u2_o _ _ _ _ (by omega)) (u2_o _ _ _ _ (by omega)) (u2_o _ _ _ _ (by omega))
  generalize ((1103515245 : Int32) * I a 18 + (12345 : Int32)) = sd at h1 hF1 hW1 hl1 hch ⊢
  refine E2.right (mo_chance h1 hm hv hlt hl1) ?_
  rintro _ ⟨J', rfl, hfr⟩
  rw [hch]
  generalize u2 I a 18 sd = I1 at h1 hF1 hW1 hl1 hch ⊢
  generalize upd W 8 sd = W1 at h1 hF1 hW1 hl1 hch ⊢
  generalize (sd >>> ((16 : Int32) &&& 31)) &&& (32767 : Int32) = dr
  by_cases hc : chV a I v n P ≤ dr - dr / (100 : Int32) * (100 : Int32)
  · simp (decide := true) only [hc, Option.bind_some, reduceIte, if_true, if_false, Bool.false_eq_true, ck_tt, v_qS, mo_k hm, mw_f hm, mo_r1 hm, mw_gates hm, mw_walkers hm, mw_of0 hm hv8, mw_of1 hm hv8, mw_of2 hm hv8, mw_of3 hm hv8, mw_of4 hm hv8, mw_of5 hm hv8, mw_st0 hm hv8, mw_st1 hm hv8, mw_st2 hm hv8, mw_st3 hm hv8, mw_st4 hm hv8, mw_st5 hm hv8, v_qS, wa_k hn, wa_f hn, wa_s hn, wa_r1 hn, wa_r2 hn, wa_r3 hn, wa_r5 hn, wa_r6 hn, wa_r7 hn, wa_r8 hn, wa_r9 hn, wa_r10 hn, wa_r11 hn, wa_w4 hn hv8, wa_w5 hn hv8, wa_w6 hn hv8, wa_w7 hn hv8, wa_w8 hn hv8, wa_t4 hn hv8, wa_t5 hn hv8, wa_t6 hn hv8, wa_t7 hn hv8, wa_t8 hn hv8, wa_q9 hn hv8, wa_q18 hn hv8, (h1.oc hv).1.2.1]
    by_cases hco : I1 (a + 5) v ≤ 0
    · simp (decide := true) only [hco, Option.bind_some, reduceIte, if_true, if_false, Bool.false_eq_true, ck_tt]
      exact E2.ok ⟨rfl, Or.inl rfl, MV.mk hF1 hW1 hfr h1 hl1⟩
    · have e7 : W1 7 = I1 a 17 := h1.2.1.2.2.2.2.2.2.1
      have g1 : u2 I1 (a + 5) v (I1 (a + 5) v - 1) a 17 = I1 a 17 := u2_n _ _ _ _ (by omega)
      have g2 : upd W1 (45 + 30 * v + 1) (I1 (a + 5) v - 1) 7 = I1 a 17 := by rw [pk_un (by omega), e7]
      have h2 := (h1.coins hv (I1 (a + 5) v - 1)).chest (I1 a 17 + 1)
      have f1 : FV a N p I1 (u2 (u2 I1 (a + 5) v (I1 (a + 5) v - 1)) a 17 (I1 a 17 + 1)) := .ofFr (fr_u2 (fr_u2 Fr.id (by omega)) (by omega))
      have f2 : FW W1 (upd (upd W1 (45 + 30 * v + 1) (I1 (a + 5) v - 1)) 7 (I1 a 17 + 1)) := (FW.id.upd (by omega)).upd (by omega)
      simp (decide := true) only [hco, Option.bind_some, reduceIte, if_true, if_false, Bool.false_eq_true, ck_tt, v_qS, mo_k hm, mw_f hm, mo_r1 hm, mw_gates hm, mw_walkers hm, mw_of0 hm hv8, mw_of1 hm hv8, mw_of2 hm hv8, mw_of3 hm hv8, mw_of4 hm hv8, mw_of5 hm hv8, mw_st0 hm hv8, mw_st1 hm hv8, mw_st2 hm hv8, mw_st3 hm hv8, mw_st4 hm hv8, mw_st5 hm hv8, v_qS, wa_k hn, wa_f hn, wa_s hn, wa_r1 hn, wa_r2 hn, wa_r3 hn, wa_r5 hn, wa_r6 hn, wa_r7 hn, wa_r8 hn, wa_r9 hn, wa_r10 hn, wa_r11 hn, wa_w4 hn hv8, wa_w5 hn hv8, wa_w6 hn hv8, wa_w7 hn hv8, wa_w8 hn hv8, wa_t4 hn hv8, wa_t5 hn hv8, wa_t6 hn hv8, wa_t7 hn hv8, wa_t8 hn hv8, wa_q9 hn hv8, wa_q18 hn hv8, mw_a hm (show (7 : Int32) = nI 7 from rfl) (show 7 < 2038 by omega), mw_t hm (show (7 : Int32) = nI 7 from rfl) (show 7 < 2038 by omega), g1, g2]
      exact E2.ok ⟨rfl, Or.inl rfl, MV.mk (hF1.trans f1) (hW1.trans f2) hfr h2 (hl1.fv hd f1 f2)⟩
  · simp (decide := true) only [hc, Option.bind_some, reduceIte, if_true, if_false, Bool.false_eq_true, ck_tt, v_qS, mo_k hm, mw_f hm, mo_r1 hm, mw_gates hm, mw_walkers hm, v_qS, wa_k hn, wa_f hn, wa_s hn, wa_r1 hn, wa_r2 hn, wa_r3 hn, wa_r5 hn, wa_r6 hn, wa_r7 hn, wa_r8 hn, wa_r9 hn, wa_r10 hn, wa_r11 hn]
    refine E2.bind (r_learn h1 hn hm hv hlt ((1 : Int32) <<< (nI n &&& 31)) 1 (by rw [bt_shl (by omega) (by omega), decide_eq_true rfl]; rfl)) ?_
    rintro M M' ⟨I5, W5, rfl, rfl, hL, hF5, h5⟩
    refine E2.ok ⟨rfl, Or.inr rfl, MV.mk (hF1.trans (.ofFr hF5.1)) (hW1.trans hF5.2) hfr h5 (hl1.fv hd (.ofFr hF5.1) hF5.2)⟩
end CHN
