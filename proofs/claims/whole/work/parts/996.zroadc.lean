/-! a road's text, of both-/
section OPROAD
variable {a b c d s g w k v q p n L o hh g' w' hh' : Nat} {I I' I2 : IM} {W W' : Nat → Int32} {N N' N2 K : NM} {J J' J2 : IM} {M M' : Mem} {P : List lnT}
theorem CRl.mono (h : CRl c I W g n) (hg : g ≤ g') : CRl c I W g' n := by
  obtain ⟨h1, h2, h3, h4⟩ := h
  refine ⟨h1, h2, h3, fun i hi => ?_⟩
  obtain ⟨l, l1, l2⟩ := h4 i hi
  exact ⟨l, by omega, l2⟩
/-- the rest, where a text was read-/
theorem INVp.text (h : INVp N I K J g w p P n L o hh) (hx : NXc N N') (r19 : ∀ x, kS N x = 17 → x ≠ 1040 → kR N' x 19 = kR N x 19)
    (fr : ∀ c, 1007 ≤ c → ¬ (1007 ≤ c ∧ c < 1034) → ¬ (1040 ≤ c ∧ c < 1067) → ¬ (1073 ≤ c ∧ c < 1079) → I' c = I c) (e10 : I' 1000 10 = I 1000 10) (e11 : I' 1000 11 = J' 1528 13) (eT : I' 1001 1 = 0) (eT' : J' 1528 8 = 0)
    (e4 : J' 1528 4 = J 1528 4) (e30 : J' 1530 = J 1530) (fw : FW (J 1529) (J' 1529)) (hw : WR 1007 I' (J' 1529) g' w') (hg : g ≤ g') (hH : HSr N' I' J' g' w' p o hh') : INVp N' I' K J' g' w' p P n 0 o hh' := by
  obtain ⟨h1, h2, h3, h4, h5, h6, h7, h8, h9, h10⟩ := h
  have lz : ∀ c j, LZx c → I' c j = I c j := fun c j hc => by have := hc.ne; rw [fr c (by rcases hc with h | h | h | h | ⟨i, h, h'⟩ <;> omega) (by omega) (by omega) (by omega)]
  refine ⟨h1.nx hx, h2, hw, by rw [r19 _ h1.wn.1.1 (by omega)]; exact h4, ((h5.nx hx).rows lz).fw fw, (h6.cong (fun r r1 r2 => fr r (by omega) (by omega) (by omega) (by omega)) (fun j hj => fw.2 j hj)).mono hg, ⟨eT, eT', by omega, fun k hk => absurd hk (Nat.not_lt_zero _)⟩, e11, hH, ?_⟩
  unfold IMr
  rw [e10, e4, e30]
  rcases h10 with h10 | ⟨i1, i2, g', w', p', P', n', i3, i4, i5, i6⟩
  · exact Or.inl h10
  · exact Or.inr ⟨i1, i2, g', w', p', P', n', i3.rows fun c c1 c2 => fr c (by omega) (by omega) (by omega) (by omega), by rw [r19 _ h1.2.2.2.1.2.2.1.1.1 (by omega)]; exact i4, (i5.nx hx).rows lz, i6.cong (fun r r1 r2 => fr r (by omega) (by omega) (by omega) (by omega)) (fun _ _ => rfl)⟩
theorem mo_kb {i : Int32} (h : MN K) (e : i = nI n) (hn : n < 1201) : aI (J, K) 1531 i = some (J 1531 n) := v_aI h.2.2.2.1.1 h.2.2.2.1.2 e hn (by omega)
theorem mo_ks {i v : Int32} (h : MN K) (e : i = nI n) (hn : n < 1201) : tI (J, K) 1531 i v = some (u2 J 1531 n v, K) := v_tI h.2.2.2.1.1 h.2.2.2.1.2 e hn (by omega)
/-- the other side keeps its world-/
theorem m_keep (hm : MN K) : loopN LIM (fun s1 : Int32 × Mem => if (1201 : Int32) ≤ s1.1 then (some (.inr (s1.2))) else ((fR s1.2 1528 19 3).bind fun v3 => (fR s1.2 1528 19 1).bind fun v4 => (aI s1.2 v4 s1.1).bind fun v5 => (tI s1.2 v3 s1.1 v5).bind fun m6 => some (.inl ((s1.1 + (1 : Int32)), m6)))) ((0 : Int32), (J, K)) = some (rowI J 1531 (fun k => if k < 1201 then J 1529 k else J 1531 k), K) := by
  refine E1.eq (lq1 (fun i s => s = (nI i, (rowI J 1531 (fun k => if k < i then J 1529 k else J 1531 k), K))) _ 1201 (lim_lt (by omega)) (Nat.zero_le _) ?_ ?_ ?_)
  · refine congrArg (fun f => ((0 : Int32), (f, K))) ?_
    exact (rw_self J 1531).symm
  · rintro i s hi rfl
    simp only [show ((1201 : Int32) ≤ nI i) = False from cm_leF (b := 1201) hi (by omega), Option.bind_some, reduceIte, if_true, if_false, Bool.false_eq_true, ck_tt, mo_r3 hm, mo_r1 hm, mo_a hm (show nI i = nI i from rfl) (show i < 2038 by omega), mo_ks hm (show nI i = nI i from rfl) hi, rw_n _ _ (show 1529 ≠ 1531 by omega), u2_row]
    refine E1.ok ?_
    show _ = _
    rw [nI_1]
    refine congrArg (fun f => (nI (i + 1), (rowI J 1531 f, K))) (funext fun j => ?_)
    by_cases e : j = i
    · subst e; rw [pk_us, if_pos (by omega)]
    · rw [pk_un e]
      by_cases e2 : j < i
      · rw [if_pos e2, if_pos (by omega)]
      · rw [if_neg e2, if_neg (by omega)]
  · rintro s rfl
    simp only [show ((1201 : Int32) ≤ nI 1201) = True from cm_leT (b := 1201) (Nat.le_refl _) (by omega), Option.bind_some, reduceIte, if_true, if_false, Bool.false_eq_true, ck_tt]
    exact E1.ok rfl
/-- the other side's world comes back-/
theorem m_restore (hm : MN K) : loopN LIM (fun s32 : Int32 × Mem => if (1201 : Int32) ≤ s32.1 then (some (.inr (((0 : Int32), s32.2)))) else ((fR s32.2 1528 19 1).bind fun v34 => (fR s32.2 1528 19 3).bind fun v35 => (aI s32.2 v35 s32.1).bind fun v36 => (tI s32.2 v34 s32.1 v36).bind fun m37 => some (.inl ((s32.1 + (1 : Int32)), m37)))) ((0 : Int32), (J, K)) = some ((0 : Int32), (rowI J 1529 (fun k => if k < 1201 then J 1531 k else J 1529 k), K)) := by
  refine E1.eq (lq1 (fun i s => s = (nI i, (rowI J 1529 (fun k => if k < i then J 1531 k else J 1529 k), K))) _ 1201 (lim_lt (by omega)) (Nat.zero_le _) ?_ ?_ ?_)
  · refine congrArg (fun f => ((0 : Int32), (f, K))) ?_
    exact (rw_self J 1529).symm
  · rintro i s hi rfl
    simp only [show ((1201 : Int32) ≤ nI i) = False from cm_leF (b := 1201) hi (by omega), Option.bind_some, reduceIte, if_true, if_false, Bool.false_eq_true, ck_tt, mo_r3 hm, mo_r1 hm, mo_kb hm (show nI i = nI i from rfl) hi, mo_t hm (show nI i = nI i from rfl) (show i < 2038 by omega), rw_n _ _ (show 1531 ≠ 1529 by omega), u2_row]
    refine E1.ok ?_
    show _ = _
    rw [nI_1]
    refine congrArg (fun f => (nI (i + 1), (rowI J 1529 f, K))) (funext fun j => ?_)
    by_cases e : j = i
    · subst e; rw [pk_us, if_pos (by omega)]
    · rw [pk_un e]
      by_cases e2 : j < i
      · rw [if_pos e2, if_pos (by omega)]
      · rw [if_neg e2, if_neg (by omega)]
  · rintro s rfl
    simp only [show ((1201 : Int32) ≤ nI 1201) = True from cm_leT (b := 1201) (Nat.le_refl _) (by omega), Option.bind_some, reduceIte, if_true, if_false, Bool.false_eq_true, ck_tt]
    exact E1.ok rfl
theorem WR.txt (h : WR a I W g w) (hx : W' 2 = I' a 13 ∧ TXs (W' 2)) (f : ∀ c j, a ≤ c → c < a + 27 → ¬ (c = a ∧ j = 13) → I' c j = I c j) (fW : ∀ j, j ≠ 2 → W' j = W j) : WR a I' W' g w := by
  have h12 := h.g12
  have h8 := h.w8
  obtain ⟨h1, h2, h3, h4, h5⟩ := h
  refine ⟨h1, ?_, fun k hk => (h3 k hk).congr (f _ _ (by omega) (by omega) (by omega)) (f _ _ (by omega) (by omega) (by omega)) (f _ _ (by omega) (by omega) (by omega)) (fun j hj => fW _ (by omega)), fun k hk => (h4 k hk).congr (fun j _ _ => f _ _ (by omega) (by omega) (by omega)) (f _ _ (by omega) (by omega) (by omega)) (fun q _ => f _ _ (by omega) (by omega) (by omega)) (fun q _ => f _ _ (by omega) (by omega) (by omega)) h12 (fun j hj => fW _ (by omega)), fun k hk hk8 => (h5 k hk hk8).congr (fun j _ _ => f _ _ (by omega) (by omega) (by omega)) (f _ _ (by omega) (by omega) (by omega)) (fun q _ => f _ _ (by omega) (by omega) (by omega))⟩
  obtain ⟨d0, d1, d2, d3⟩ := h2
  unfold WA
  rw [f a 0 (by omega) (by omega) (by omega), f a 4 (by omega) (by omega) (by omega), f a 14 (by omega) (by omega) (by omega), f a 15 (by omega) (by omega) (by omega), f a 16 (by omega) (by omega) (by omega), f a 17 (by omega) (by omega) (by omega), f a 18 (by omega) (by omega) (by omega), fW 0 (by omega), fW 1 (by omega), fW 4 (by omega), fW 5 (by omega), fW 6 (by omega), fW 7 (by omega), fW 8 (by omega)]
  exact ⟨d0, d1, hx, d3⟩
theorem uS_o {j : Nat} (h : ¬ (c = 1528 ∧ (j = 0 ∨ (8 ≤ j ∧ j ≤ 10) ∨ j = 15))) : uS J c j = J c j := by
  unfold uS
  rw [u2_n _ _ _ _ (by omega), u2_n _ _ _ _ (by omega), u2_n _ _ _ _ (by omega), u2_n _ _ _ _ (by omega), u2_n _ _ _ _ (by omega)]
theorem uS_9 : uS J 1528 9 = 0 := by
  unfold uS
  rw [u2_n _ _ _ _ (by omega), u2_s]
theorem uS_8 : uS J 1528 8 = 0 := by
  unfold uS
  rw [u2_n _ _ _ _ (by omega), u2_n _ _ _ _ (by omega), u2_s]
theorem uS_10 : uS J 1528 10 = J 1528 8 := by
  unfold uS
  rw [u2_n _ _ _ _ (by omega), u2_n _ _ _ _ (by omega), u2_n _ _ _ _ (by omega), u2_s]
theorem uS_0 : uS J 1528 0 = 0 := by
  unfold uS
  rw [u2_n _ _ _ _ (by omega), u2_n _ _ _ _ (by omega), u2_n _ _ _ _ (by omega), u2_n _ _ _ _ (by omega), u2_s]
theorem uS_15 : uS J 1528 15 = 0 := u2_s _ _ _ _
/-- a text is split-/
theorem c_text (h : INVp N I K J g w p P n L o hh) : E1 (F_Text_split 1003 (I, N)) (fun M => ∃ I' R nn st E, M = (I', (R, N.2)) ∧ NXc N (R, N.2) ∧ (∀ c, c ≠ 1004 → R c = N.1 c) ∧ TC (R, N.2) I' (bxV I) L nn st E 0 ∧ ∀ c j, c ≠ 1005 → c ≠ 1006 → ¬ (c = 1003 ∧ (j = 5 ∨ j = 6)) → I' c j = I c j) := by
  obtain ⟨h1, h2, h3, h4, h5, h6, h7, h8, h9, h10⟩ := h
  have hB : TBy I (bxV I) L := ⟨h7.2.2.1, fun k hk => ⟨(h7.at hk).1, (h7.at hk).2.1⟩⟩
  refine (c_split h1 hB h7.1).imp ?_
  rintro M ⟨I', R, nn, st, E, rfl, hT, ⟨e5, e6⟩, r5, r6, r4, rn, fR', fI'⟩
  refine ⟨I', R, nn, st, E, rfl, ⟨fun _ _ => ⟨rfl, rfl⟩, fun b k _ hb _ _ => congrFun (fR' b hb) k, Nat.le_refl _, h1.2.2.2.2.2.2.2.2.2.2.2⟩, fR', ⟨⟨h7.2.2.1, fun k hk => ⟨(h7.at hk).1, ?_⟩⟩, hT, ⟨e5, e6, Nat.zero_le _⟩, r5, r6, r4, rn⟩, fI'⟩
  rw [fI' 1002 k (by omega) (by omega) (by omega)]
  exact (h7.at hk).2.1
theorem bt_text (h : INVp N I K J g w p P n L o hh) {nn : Nat} {st E : Nat → Nat} (hT : TC N' I' (bxV I) L nn st E 0) (e1 : J' 1528 = J 1528) (e2 : J' 1533 = J 1533) : BT N' I' (uS J') (bxV I) L nn st E 0 := by
  have h7 := h.2.2.2.2.2.2.1
  refine ⟨hT, ⟨⟨?_, h7.2.2.1⟩, fun k hk => ⟨(h7.at hk).1, ?_⟩⟩, 0, uS_9, Nat.le_of_eq hT.2.1.1.2, Nat.zero_le _⟩
  · rw [uS_10, e1]; exact h7.2.1
  · rw [uS_o (by omega), e2]; exact (h7.at hk).2.2
theorem op_road (h : INVp N I K J g w p P n L o hh) : E2 (F_RR_road 1000 (I, N)) (F_Mo_road 1528 (J, K)) (Ex trR N I K J) := by
  have hall := h
  obtain ⟨h1, h2, h3, h4, h5, h6, h7, h8, h9, h10⟩ := h
  have k3 : kS N 1003 = 16 := h1.2.2.1.1
  have hm := h2
  unfold F_RR_road
  simp only [sp_r1 h1, Option.bind_some, reduceIte, if_true, if_false, Bool.false_eq_true, ck_tt, v_qS, k3]
  refine E2.left (c_text hall) ?_
  rintro _ ⟨I1, R, nn, st, E, rfl, hx1, fR1, hT1, f1⟩
  have hN1 : Shp (R, N.2) := h1.nx hx1
  have kd : kS (R, N.2) 1040 = 17 := wa_k hN1.2.2.2.1.2.1
  simp only [sp_r0 hN1, sp_r2 hN1, sp_r3 hN1, Option.bind_some, reduceIte, if_true, if_false, Bool.false_eq_true, ck_tt, v_sI hN1.2.1.1, v_qS, kd]
  refine E2.left (c_copy hN1.2.2.2.1.2.1 hN1.wn (by omega) (u2 I1 1001 1 0)) ?_
  rintro _ ⟨I3, rfl, f3, g3⟩
  have e19 : kR (R, N.2) 1007 19 = p := by rw [← h4]; exact congrFun (fR1 1007 (by omega)) 19
  rw [e19]
  have hx2 : NXc (R, N.2) (rN (R, N.2) 1040 19 p) := NXc.r19 hN1.2.2.2.2.2.2.2.2.2.2.2 kd p
  have hN2 : Shp (rN (R, N.2) 1040 19 p) := hN1.nx hx2
  have hxx := hx1.trans hx2
  have r19 : ∀ x, kS N x = 17 → x ≠ 1040 → kR (rN (R, N.2) 1040 19 p) x 19 = kR N x 19 := fun x kx hx => by
    rw [kR_n _ (fun z => hx z.1)]
    exact congrFun (fR1 x (fun z => by rw [z] at kx; have := h1.2.2.1.2.2.2.2.2.2.1.1; rw [this] at kx; cases kx)) 19
  have hT2 : TC (rN (R, N.2) 1040 19 p) I3 (bxV I) L nn st E 0 := by
    obtain ⟨t1, t2, t3, t4, t5, t6, t7⟩ := hT1.rows (I' := I3) fun c c1 c2 => by rw [g3 c (by omega), u2_o _ _ _ _ (by omega)]
    exact ⟨t1, t2, t3, t4, t5, fun k hk => by rw [kR_n _ (by omega)]; exact t6 k hk, by rw [kR_n _ (by omega)]; exact t7⟩
  have e40 : kR (rN (R, N.2) 1040 19 p) 1040 19 = p := kR_s _ _ _
  generalize rN (R, N.2) 1040 19 p = N2 at hx2 hN2 hxx r19 hT2 e40 ⊢
  have fA3 : ∀ c, c ≠ 1001 → c ≠ 1003 → c ≠ 1005 → c ≠ 1006 → ¬ (1040 ≤ c ∧ c < 1067) → I3 c = I c := fun c c1 c2 c3 c4 c5 => by
    rw [g3 c (by omega), u2_o _ _ _ _ c1]
    exact funext fun j => f1 c j c3 c4 (by omega)
  have hW3 : WR 1040 I3 (J 1529) g w := by
    refine (h3.rows (I' := u2 I1 1001 1 0) fun c c1 c2 => ?_).copy f3
    rw [u2_o _ _ _ _ (by omega)]
    exact funext fun j => f1 c j (by omega) (by omega) (by omega)
  have k73 : kS N2 1073 = 14 := hN2.2.2.2.2.1.1
  unfold F_Mo_road
  rw [m_keep hm]
  simp only [sp_r4 hN2, Option.bind_some, reduceIte, if_true, if_false, Bool.false_eq_true, ck_tt, v_qS, k73, mo_k hm]
  have eJ1 : ∀ c, c ≠ 1531 → rowI J 1531 (fun k => if k < 1201 then J 1529 k else J 1531 k) c = J c := fun c hc => rw_n _ _ hc
  have eJ31 : rowI J 1531 (fun k => if k < 1201 then J 1529 k else J 1531 k) 1531 = (fun k => if k < 1201 then J 1529 k else J 1531 k) := rw_s _ _ _
  generalize rowI J 1531 (fun k => if k < 1201 then J 1529 k else J 1531 k) = J1 at eJ1 eJ31 ⊢
  have hB := bt_text hall hT2 (eJ1 1528 (by omega)) (eJ1 1533 (by omega))
  have hr := r_all hB hN2 hm hW3
  rw [← eJ1 1529 (by omega), rw_self] at hr
  refine E2.bind hr ?_
  rintro ⟨u1, u2'⟩ ⟨v1, v2⟩ ⟨I4, W', k, pp, r, e1, e2, hT4, fr4, fw4, hcase⟩
  have e1 : u2' = (I4, N2) := e1
  have e2 : v2 = (rowI (pt (uS J1) pp r) 1529 W', K) := e2
  subst e1 e2
  have k3' : kS N2 1003 = 16 := hN2.2.2.1.1
  have fA : ∀ c, c ≠ 1001 → c ≠ 1003 → c ≠ 1005 → c ≠ 1006 → ¬ (1040 ≤ c ∧ c < 1067) → I4 c = I c := fun c c1 c2 c3 c4 c5 => (fr4 c c2 c5).trans (fA3 c c1 c2 c3 c4 c5)
  have eT : I4 1001 1 = 0 := by rw [fr4 1001 (by omega) (by omega), g3 1001 (by omega), u2_s]
  have eJW : J1 1529 = J 1529 := eJ1 1529 (by omega)
  rw [eJW] at fw4
  have bad : ∀ (c : Nat) (z y : Int32), trR c = y → y ≠ 0 → Ex trR N I K J (.inr (c, pNew (u2 I4 1000 11 z, N2) 30 0)) (0, (rowI (rowI (u2 (u2 (pt (uS J1) pp r) 1528 13 z) 1528 0 y) 1529 W') 1529 (fun k => if k < 1201 then rowI (u2 (u2 (pt (uS J1) pp r) 1528 13 z) 1528 0 y) 1529 W' 1531 k else rowI (u2 (u2 (pt (uS J1) pp r) 1528 13 z) 1528 0 y) 1529 W' 1529 k), K)) := by
    intro c z y hc hy
    have eW : (fun k => if k < 1201 then rowI (u2 (u2 (pt (uS J1) pp r) 1528 13 z) 1528 0 y) 1529 W' 1531 k else rowI (u2 (u2 (pt (uS J1) pp r) 1528 13 z) 1528 0 y) 1529 W' 1529 k) = J 1529 := by
      refine funext fun k => ?_
      by_cases hk : k < 1201
      · rw [if_pos hk, rw_n _ _ (by omega), u2_o _ _ _ _ (by omega), u2_o _ _ _ _ (by omega), pt_o _ _ _ (by omega), uS_o (by omega), eJ31]; exact if_pos hk
      · rw [if_neg hk, rw_s, fw4.1.2 k (by omega)]
    rw [eW, rw_rw]
    have gJ : ∀ c j, c ≠ 1529 → ¬ (c = 1528 ∧ (j = 9 ∨ j = 11 ∨ j = 0 ∨ j = 13)) → rowI (u2 (u2 (pt (uS J1) pp r) 1528 13 z) 1528 0 y) 1529 (J 1529) c j = uS J1 c j := fun c j c1 c2 => by rw [rw_n _ _ c1, u2_n _ _ _ _ (by omega), u2_n _ _ _ _ (by omega), pt_o _ _ _ (by omega)]
    have hI : INVp N2 (u2 I4 1000 11 z) K (rowI (u2 (u2 (pt (uS J1) pp r) 1528 13 z) 1528 0 y) 1529 (J 1529)) g w p P n 0 o hh := by
      refine hall.text hxx r19 (fun c c1 c2 c3 c4 => ?_) ?_ ?_ ?_ ?_ ?_ ?_ ?_ ?_ (Nat.le_refl _) ?_
      · rw [u2_o _ _ _ _ (by omega)]; exact fA c (by omega) (by omega) (by omega) (by omega) c3
      · rw [u2_n _ _ _ _ (by omega), fA 1000 (by omega) (by omega) (by omega) (by omega) (by omega)]
      · rw [u2_s, rw_n _ _ (by omega), u2_n _ _ _ _ (by omega), u2_s]
      · rw [u2_o _ _ _ _ (by omega)]; exact eT
      · rw [gJ _ _ (by omega) (by omega)]; exact uS_8
      · rw [gJ _ _ (by omega) (by omega), uS_o (by omega), eJ1 1528 (by omega)]
      · refine funext fun j => ?_
        rw [gJ _ _ (by omega) (by omega), uS_o (by omega), eJ1 1530 (by omega)]
      · rw [rw_s]; exact FW.id
      · rw [rw_s]
        exact h3.rows fun c c1 c2 => by rw [u2_o _ _ _ _ (by omega)]; exact fA c (by omega) (by omega) (by omega) (by omega) (by omega)
      · refine h9.cong ?_ ?_ ?_ ?_ (fun c c1 c2 c3 => ?_) (fun i hi => r19 _ (h1.2.2.2.1.2.2.2 i hi).1.1 (by omega))
        · rw [u2_o _ _ _ _ (by omega)]; exact fA _ (by omega) (by omega) (by omega) (by omega) (by omega)
        · rw [gJ _ _ (by omega) (by omega), uS_o (by omega), eJ1 1528 (by omega)]
        · refine funext fun j => ?_
          rw [gJ _ _ (by omega) (by omega), uS_o (by omega), eJ1 1532 (by omega)]
        · rw [rw_s]
        · rw [u2_o _ _ _ _ (by omega)]; exact fA c (by omega) (by omega) (by omega) (by omega) (by omega)
    obtain ⟨I', N', e, hI', fC⟩ := hI.exc
    refine ⟨I', N', _, rfl, ⟨_, _, _, _, _, _, _, _, hI'⟩, ?_, ?_, Or.inr ⟨c, by rw [e], ?_, by rw [hc]; exact hy⟩⟩
    · refine FrC.trans (fun c c1 c2 => ?_) fC
      rw [u2_o _ _ _ _ (by omega)]; exact fA c (by omega) (by omega) (by omega) (by omega) (by omega)
    · refine fun c hc => funext fun j => ?_
      rw [gJ _ _ (by omega) (by omega), uS_o (by omega), eJ1 c (by omega)]
    · rw [rw_n _ _ (by omega), u2_s, hc]
  have neg : ((0 : Int32) ≤ -1) = False := eq_false (by decide)
  rcases hcase with ⟨z1, z2, z3⟩ | ⟨z1, z2, g0, g', w', z3, z4, hW'⟩
  · have z1 : u1 = 0 := z1
    have z2 : v1 = -1 := z2
    have z3 : r = st k := z3
    subst z1 z2 z3
    simp only [Option.bind_some, reduceIte, if_true, if_false, Bool.false_eq_true, ck_tt, neg, sp_r1 hN2, v_qS, k3', c_start hN2 hT4, v_sI (sp_k hN2), v_qS, mo_k hm, mw_f hm, mo_r1 hm, mw_gates hm, mw_walkers hm, pt_11, mw_s hm, m_thr1 hm, i32_10, bdS_l, m_restore hm]
    exact E2.ok (bad 1 _ 1 rfl (by decide))
  · have z1 : u1 = 1 := z1
    have z2 : 0 ≤ v1 := z2
    subst z1
    have eg : g0 = g := by
      have b2 := h3.g12
      have b3 := hW'.g12
      have := h3.gb
      rw [eJW, this] at z3
      exact ((nI_eq (by omega) (by omega)).mp z3).symm
    obtain ⟨⟨t1, t, t2, t3⟩, -⟩ := h3.2.1.2.2
    have eW2 : W' 2 = nI t := fw4.2.trans t3
    have eI13 : u2 I4 1000 11 (-1) 1007 13 = nI t := by rw [u2_o _ _ _ _ (by omega), fA 1007 (by omega) (by omega) (by omega) (by omega) (by omega), ← t1, t3]
    have e10 : (nI t = (10 : Int32)) = (t = 10) := propext (nI_eq (b := 10) (by omega) (by omega))
    simp only [Option.bind_some, reduceIte, if_true, if_false, Bool.false_eq_true, ck_tt, i32_10, z2, v_sI (sp_k hN2), sp_r2 hN2, v_qS, wa_k hN2.wn, wa_f hN2.wn, wa_s hN2.wn, wa_r1 hN2.wn, wa_r2 hN2.wn, wa_r3 hN2.wn, wa_r5 hN2.wn, wa_r6 hN2.wn, wa_r7 hN2.wn, wa_r8 hN2.wn, wa_r9 hN2.wn, wa_r10 hN2.wn, wa_r11 hN2.wn, eI13, v_qS, mo_k hm, mw_f hm, mo_r1 hm, mw_gates hm, mw_walkers hm, mw_s hm, m_thr0, mw_a hm (show (2 : Int32) = nI 2 from rfl) (show 2 < 2038 by omega), eW2, e10]
    by_cases ht : t = 10
    · have c10 : (nI 10 < (10 : Int32)) = False := cm_ltF (b := 10) (Nat.le_refl _) (by omega)
      subst ht
      simp only [c10, Option.bind_some, reduceIte, if_true, if_false, Bool.false_eq_true, ck_tt, m_thr1 hm, i32_10, bdS_l, m_restore hm]
      exact E2.ok (bad 3 _ 2 rfl (by decide))
    · have c10 : (nI t < (10 : Int32)) = True := cm_ltT (b := 10) (by omega) (by omega)
      have hn40 := hN2.2.2.2.1.2.1
      have e13 : u2 I4 1000 11 (-1) 1040 13 = nI t := by rw [u2_o _ _ _ _ (by omega), ← hW'.2.1.2.2.1.1, eW2]
      simp only [ht, c10, Option.bind_some, reduceIte, if_true, if_false, Bool.false_eq_true, ck_tt, sp_r3 hN2, v_qS, wa_k hn40, wa_f hn40, wa_s hn40, wa_r1 hn40, wa_r2 hn40, wa_r3 hn40, wa_r5 hn40, wa_r6 hn40, wa_r7 hn40, wa_r8 hn40, wa_r9 hn40, wa_r10 hn40, wa_r11 hn40, v_qS, wa_k hN2.wn, wa_f hN2.wn, wa_s hN2.wn, wa_r1 hN2.wn, wa_r2 hN2.wn, wa_r3 hN2.wn, wa_r5 hN2.wn, wa_r6 hN2.wn, wa_r7 hN2.wn, wa_r8 hN2.wn, wa_r9 hN2.wn, wa_r10 hN2.wn, wa_r11 hN2.wn, e13, show nI t + (1 : Int32) = nI (t + 1) from nI_add t 1, m_thr0, mw_t hm (show (2 : Int32) = nI 2 from rfl) (show 2 < 2038 by omega), mw_a hm (show (2 : Int32) = nI 2 from rfl) (show 2 < 2038 by omega), eW2, mw_s hm, pk_us, bdS_r, sp_r2 hN2]
      refine E2.left (c_copy hN2.wn hn40 (by omega) _) ?_
      rintro _ ⟨I5, rfl, f5, g5⟩
      rw [e40]
      have hx3 : NXc N2 (rN N2 1007 19 p) := NXc.r19 hN2.2.2.2.2.2.2.2.2.2.2.2 hN2.wn.1.1 p
      have hN3 := hN2.nx hx3
      have hxy := hxx.trans hx3
      have r19' : ∀ x, kS N x = 17 → x ≠ 1040 → kR (rN N2 1007 19 p) x 19 = kR N x 19 := fun x kx hx => by
        by_cases e : x = 1007
        · rw [e, kR_s, h4]
        · rw [kR_n _ (fun z => e z.1)]; exact r19 x kx hx
      have k77 : kS (rN N2 1007 19 p) 1077 = 11 := hN3.2.2.2.2.2.2.1.1
      have eV : I5 1007 13 = nI (t + 1) := by
        have := f5 0 13 (Or.inl ⟨rfl, by omega⟩)
        rw [Nat.add_zero, Nat.add_zero] at this
        rw [this, u2_s]
      unfold F_History_clear
      simp only [sp_r6 hN3, Option.bind_some, reduceIte, if_true, if_false, Bool.false_eq_true, ck_tt, v_qS, k77, v_sI k77, sp_r2 hN3, v_qS, wa_k hN3.wn, wa_f hN3.wn, wa_s hN3.wn, wa_r1 hN3.wn, wa_r2 hN3.wn, wa_r3 hN3.wn, wa_r5 hN3.wn, wa_r6 hN3.wn, wa_r7 hN3.wn, wa_r8 hN3.wn, wa_r9 hN3.wn, wa_r10 hN3.wn, wa_r11 hN3.wn, u2_n _ _ _ _ (show ¬ (1007 = 1077 ∧ 13 = 2) by omega), eV]
      have fB : ∀ c, ¬ (1007 ≤ c ∧ c < 1034) → c ≠ 1000 → c ≠ 1001 → c ≠ 1003 → c ≠ 1005 → c ≠ 1006 → ¬ (1040 ≤ c ∧ c < 1067) → I5 c = I c := fun c c0 c1 c2 c3 c4 c5 c6 => by
        rw [g5 c c0, u2_o _ _ _ _ (by omega), u2_o _ _ _ _ c1]
        exact fA c c2 c3 c4 c5 c6
      have gJ : ∀ c j, c ≠ 1529 → ¬ (c = 1528 ∧ (j = 9 ∨ j = 11 ∨ j = 6 ∨ j = 13)) → rowI (u2 (u2 (pt (uS J1) pp r) 1528 13 (-1)) 1528 6 0) 1529 (upd W' 2 (nI (t + 1))) c j = uS J1 c j := fun c j c1 c2 => by rw [rw_n _ _ c1, u2_n _ _ _ _ (by omega), u2_n _ _ _ _ (by omega), pt_o _ _ _ (by omega)]
      obtain ⟨⟨q1, q2⟩, ⟨q3, q4, q5⟩, q6⟩ := h9
      have hI : INVp (rN N2 1007 19 p) (u2 I5 1077 2 0) K (rowI (u2 (u2 (pt (uS J1) pp r) 1528 13 (-1)) 1528 6 0) 1529 (upd W' 2 (nI (t + 1)))) g' w' p P n 0 o 0 := by
        refine hall.text hxy r19' (fun c c1 c2 c3 c4 => ?_) ?_ ?_ ?_ ?_ ?_ ?_ ?_ ?_ (by omega) ⟨⟨q1, by omega⟩, ⟨?_, ?_, ?_⟩, fun i hi => absurd hi (Nat.not_lt_zero _)⟩
        · rw [u2_o _ _ _ _ (by omega)]; exact fB c c2 (by omega) (by omega) (by omega) (by omega) (by omega) c3
        · rw [u2_n _ _ _ _ (by omega), g5 1000 (by omega), u2_n _ _ _ _ (by omega), u2_n _ _ _ _ (by omega), fA 1000 (by omega) (by omega) (by omega) (by omega) (by omega)]
        · rw [u2_n _ _ _ _ (by omega), g5 1000 (by omega), u2_n _ _ _ _ (by omega), u2_s, rw_n _ _ (by omega), u2_n _ _ _ _ (by omega), u2_s]
        · rw [u2_o _ _ _ _ (by omega), g5 1001 (by omega), u2_o _ _ _ _ (by omega), u2_o _ _ _ _ (by omega)]; exact eT
        · rw [gJ _ _ (by omega) (by omega)]; exact uS_8
        · rw [gJ _ _ (by omega) (by omega), uS_o (by omega), eJ1 1528 (by omega)]
        · refine funext fun j => ?_
          rw [gJ _ _ (by omega) (by omega), uS_o (by omega), eJ1 1530 (by omega)]
        · rw [rw_s]; exact fw4.1.upd (by omega)
        · rw [rw_s]
          have hw4 : WR 1040 (u2 (u2 I4 1000 11 (-1)) 1040 13 (nI (t + 1))) (upd W' 2 (nI (t + 1))) g' w' := by
            refine hW'.txt ⟨by rw [pk_us, u2_s], t + 1, by omega, pk_us⟩ (fun c j c1 c2 c3 => ?_) fun j hj => pk_un hj
            rw [u2_n _ _ _ _ c3, u2_o _ _ _ _ (by omega)]
          refine (hw4.copy f5).rows fun c c1 c2 => ?_
          rw [u2_o _ _ _ _ (by omega)]
        · rw [u2_n _ _ _ _ (by omega), fB 1077 (by omega) (by omega) (by omega) (by omega) (by omega) (by omega) (by omega)]; exact q3
        · rw [u2_s]; rfl
        · rw [rw_n _ _ (by omega), u2_s]; rfl
      simp only [v_qS, mo_k hm, mw_f hm, mo_r1 hm, mw_gates hm, mw_walkers hm, Option.bind_some, reduceIte, if_true, if_false, Bool.false_eq_true, ck_tt, mw_t hm (show (2 : Int32) = nI 2 from rfl) (show 2 < 2038 by omega), mw_a hm (show (2 : Int32) = nI 2 from rfl) (show 2 < 2038 by omega), eW2, mw_s hm, pk_us, bdS_r, show nI t + (1 : Int32) = nI (t + 1) from nI_add t 1]
      refine E2.ok ⟨_, _, _, rfl, ⟨_, _, _, _, _, _, _, _, hI⟩, fun c c1 c2 => ?_, fun c hc => funext fun j => ?_, Or.inl ⟨_, rfl, rfl, ?_⟩⟩
      · rw [u2_o _ _ _ _ (by omega)]; exact fB c (by omega) (by omega) (by omega) (by omega) (by omega) (by omega) (by omega)
      · rw [gJ _ _ (by omega) (by omega), uS_o (by omega), eJ1 c (by omega)]
      · rw [gJ _ _ (by omega) (by omega)]; exact uS_0
end OPROAD
