/-! all lines of a road -/
section ALL
variable {k k0 n L q s e r t i c d g w p : Nat} {b st E : Nat → Nat} {I I' I0 : IM} {N N' K : NM} {J J' J0 : IM} {W W' W0 : Nat → Int32} {x y z : Int32}
theorem b_semi (h : BT N I J b L n st E k0) (hm : MN K) (hk : k ≤ n) : F_Mo_isAt 1528 59 59 (rowI (pt J (st k) (st k)) 1529 W, K) = some (if kR N 1004 k = 5 then 1 else 0) := by
  have h' := (h.mid (h.atS hk) (st k)).toRow (W := W)
  have hT := h.1.2.1
  rw [m_isAt hm h'.2.1 (hT.st_le hk) (by rw [rw_n _ _ (by omega), pt_9])]
  refine congrArg some ?_
  have key : (st k < L ∧ (59 : Int32) ≤ rowI (pt J (st k) (st k)) 1529 W 1533 (st k) ∧ rowI (pt J (st k) (st k)) 1529 W 1533 (st k) ≤ 59) ↔ kR N 1004 k = 5 := by
    rw [← h.kn hk (show 5 ≠ 2 by omega), ← tok_sg (h.1.at hk) (sgT_at (show (59, 4) ∈ sgT by decide))]
    constructor
    · rintro ⟨z1, z2⟩
      have hk' := (hT.st_lt hk).mp z1
      obtain ⟨hx, ex⟩ := h'.2.1.2 (st k) z1
      rw [ex] at z2
      exact ⟨hk', (by_sign 59 (by omega) _ hx).mp z2⟩
    · rintro ⟨z1, z2⟩
      have hl := (hT.st_lt hk).mpr z1
      obtain ⟨hx, ex⟩ := h'.2.1.2 (st k) hl
      rw [ex]
      exact ⟨hl, (by_sign 59 (by omega) _ hx).mpr z2⟩
  by_cases c : kR N 1004 k = 5
  · rw [if_pos c, if_pos (key.mpr c)]
  · rw [if_neg c, if_neg (fun z => c (key.mp z))]
theorem b_semiE (h : BT N I J b L n st E k0) (hk : k ≤ n) (c : kR N 1004 k = 5) : E (k + 1) = st k + 1 := by
  have hk' := h.klt hk c (by omega)
  have := (tok_sg (h.1.at hk) (sgT_at (show (59, 4) ∈ sgT by decide))).mpr ⟨hk', c⟩
  exact (h.1.2.1.2.2 k hk').2.2.1 (by rw [this.2]; decide)
theorem tk_2 (h : TC N I b L n st E k) : kR N 1004 k = 2 ↔ k = n := by
  have hk := h.2.2.1.2.2
  constructor
  · intro c
    by_cases z : k = n
    · exact z
    · have hk' : k < n := by omega
      exact absurd c (tk_end (h.2.2.2.2.2.1 k hk') (h.lt hk').1)
  · rintro rfl; exact h.2.2.2.2.2.2
/-- a line of a road, the other side's with its letters -/
theorem r_line (h : BT N I J b L n st E k) (hs : Shp N) (hm : MN K) (hW : WR 1040 I W g w) (ha : AT st E n k p) (hi : i < 14) :
    E2 (F_RoadReader_readLine 1073 (I, N)) (F_Mo_readLine 1528 1 (nI i) (rowI (pt J p r) 1529 W, K)) (LNr N I K J W b L n st E k) := by
  obtain ⟨u, v, eu, ev, hl⟩ := r_roadLine h hs hm hW
  rw [eu]
  unfold F_Mo_readLine
  simp only [v_qS, mo_k hm, mw_f hm, mo_r1 hm, mw_gates hm, mw_walkers hm, Option.bind_some, reduceIte, if_true, if_false, Bool.false_eq_true, ck_tt, b_let h hm ha, show ((1 : Int32) = 0) = False from i32_10, show ((14 : Int32) ≤ nI i) = False from cm_leF (b := 14) hi (by omega), ev]
  have hc : v.1 = 0 ∨ v.1 = 1 := by
    obtain ⟨_, _, _, _, _, _, _, _, _, _, h | h⟩ := id hl
    · exact Or.inl h.2.1
    · exact Or.inr h.2.1
  obtain ⟨v1, v2⟩ := v
  rcases hc with hc | hc
  · have hc : v1 = 0 := hc
    subst hc
    simp only [Option.bind_some, reduceIte, if_true, if_false, Bool.false_eq_true, ck_tt, bdS_l]
    exact E2.ok hl
  · have hc : v1 = 1 := hc
    subst hc
    simp only [Option.bind_some, reduceIte, if_true, if_false, Bool.false_eq_true, ck_tt, i32_10, bdS_r]
    exact E2.ok hl
/-- the ends of all lines -/
def ALr (N : NM) (I : IM) (K : NM) (J : IM) (W : Nat → Int32) (b : Nat → Nat) (L n : Nat) (st E : Nat → Nat) (u v : Int32 × Mem) : Prop :=
  ∃ I' W' k p r, u.2 = (I', N) ∧ v.2 = (rowI (pt J p r) 1529 W', K) ∧ TC N I' b L n st E k ∧ (∀ c, c ≠ 1003 → ¬ (1040 ≤ c ∧ c < 1067) → I' c = I c) ∧ FX W W' ∧ ((u.1 = 0 ∧ v.1 = -1 ∧ r = st k) ∨ (u.1 = 1 ∧ 0 ≤ v.1 ∧ ∃ g0 g w, W 0 = nI g0 ∧ g0 ≤ g ∧ WR 1040 I' W' g w))
/-- what is used up -/
def uS (J : IM) : IM := u2 (u2 (u2 (u2 (u2 J 1528 0 0) 1528 10 (J 1528 8)) 1528 8 0) 1528 9 0) 1528 15 0
theorem m_usesR (hm : MN K) : (F_Mo_uses 1528 (rowI J 1529 W, K)).bind (fun v1 => sI v1 1528 19 15 (0 : Int32)) = some (rowI (uS J) 1529 W, K) := by
  unfold F_Mo_uses uS
  simp only [Option.bind_some, reduceIte, if_true, if_false, Bool.false_eq_true, ck_tt, v_qS, mo_k hm, mw_f hm, mo_r1 hm, mw_gates hm, mw_walkers hm, mw_s hm, u2_n _ _ _ _ (show ¬ (1528 = 1528 ∧ 8 = 0) by omega)]
theorem r_all (h : BT N I (uS J0) b L n st E 0) (hs : Shp N) (hm : MN K) (hW : WR 1040 I W g w) :
    E2 (F_LineReader_readLines_4 1073 14 (I, N)) (F_Mo_readAll 1528 1 (rowI J0 1529 W, K)) (ALr N I K (uS J0) W b L n st E) := by
  obtain ⟨q0, r0, r1⟩ := hs.2.2.2.2.1
  have kt : kS N 1003 = 16 := hs.2.2.1.1
  have hrng := h.1.rng
  have hn := h.1.n_le
  have hk := h.1.2.2.1.2.2
  have hT := h.1.2.1
  have e10 : uS J0 1528 10 = nI L := h.2.1.1.1
  have cmpE : ∀ k, k ≤ n → (nI (st k) = nI L) = (k = n) := fun k hk => by
    have h1 := hT.st_le hk
    rw [nI_eq (by omega) (by omega)]
    refine propext ⟨fun z => ?_, fun z => by rw [z]; exact hT.1.1⟩
    have := hT.st_lt hk
    omega
  have hu := m_usesR (J := J0) (W := W) hm
  unfold F_LineReader_readLines_4 F_Mo_readAll
  simp only [v_qS, mo_k hm, ck_tt]
  rw [← Option.bind_assoc, hu]
  have hB0 := h.2.1
  simp only [v_fR q0, r0, v_qS, kt, Option.bind_some, reduceIte, if_true, if_false, Bool.false_eq_true, ck_tt, c_tok hs h.1, v_qS, mo_k hm, mw_f hm, mo_r1 hm, mw_gates hm, mw_walkers hm, ck_tt (show kR N 1004 0 ≤ 36 ∧ 2 ≤ 36 from ⟨hrng.2, by omega⟩), tk_2 h.1, m_blkR h hm, pt_9]
  have e10p : ∀ p r, pt (uS J0) p r 1528 10 = nI L := fun p r => by rw [pt_o _ _ _ (by omega)]; exact e10
  generalize uS J0 = J at h hB0 e10 e10p ⊢
  simp only [e10p, cmpE 0 (by omega)]
  by_cases c0 : 0 = n
  · simp only [c0, Option.bind_some, reduceIte, if_true, if_false, Bool.false_eq_true, ck_tt]
    exact E2.ok ⟨I, W, 0, st 0, st 0, rfl, by rw [c0], h.1, fun _ _ _ => rfl, FX.id, Or.inr ⟨rfl, (show (0 : Int32) ≤ 0 by decide), g, g, w, hW.gb, Nat.le_refl _, hW⟩⟩
  simp only [c0, Option.bind_some, reduceIte, if_true, if_false, Bool.false_eq_true, ck_tt]
  unfold bdS
  refine E2.bindR (P := fun u v => ∃ v', Sum.elim (fun s22 : Int32 × Mem => some (s22.1 + (1 : Int32), s22.2)) some v = some v' ∧ ALr N I K J W b L n st E u v') ?_ (fun a b' ⟨v', e, hl⟩ => ⟨v', e, hl⟩)
  refine lq2 (fun i s t => ∃ I' W' k p r, s = (nI i, (I', N)) ∧ t = (nI i, (rowI (pt J p r) 1529 W', K)) ∧ TC N I' b L n st E k ∧ AT st E n k p ∧ (∀ c, c ≠ 1003 → ¬ (1040 ≤ c ∧ c < 1067) → I' c = I c) ∧ FX W W' ∧ ∃ g1 w, g ≤ g1 ∧ WR 1040 I' W' g1 w) _ 14 (lim_lt (by omega)) (Nat.zero_le _) ⟨I, W, 0, st 0, st 0, rfl, rfl, h.1, h.atS (by omega), fun _ _ _ => rfl, FX.id, g, w, Nat.le_refl _, hW⟩ ?_ ?_
  · rintro i s t hi ⟨I1, W1, k, p, r, rfl, rfl, hTC, hA, fr, fw, g1, w1, hg1, hW1⟩
    have hB : BT N I1 (pt J p r) b L n st E k := ⟨hTC, hB0.pt p r, p, pt_9 _ _ _, hA.2.1, hA.2.2⟩
    have hl := r_line (p := p) (r := r) hB hs hm hW1 hA hi
    rw [pt_pt] at hl
    simp only [show ((14 : Int32) ≤ nI i) = False from cm_leF (b := 14) hi (by omega), Option.bind_some, reduceIte, if_true, if_false, Bool.false_eq_true, ck_tt, v_qS, q0, mo_k hm]
    refine E2.bind hl ?_
    rintro ⟨u1, u2⟩ ⟨v1, v2⟩ ⟨I2, W2, k2, p2, r2, e1, e2, hT2, fr2, fw2, h2⟩
    have e1 : u2 = (I2, N) := e1
    have e2 : v2 = (rowI (pt (pt J p r) p2 r2) 1529 W2, K) := e2
    rw [pt_pt] at e2
    subst e1 e2
    rcases h2 with ⟨z1, z2, z3⟩ | ⟨z1, z2, hA2, hk2, g0, g2, w2, e0, hg2, hW2⟩
    · have z1 : u1 = 0 := z1
      have z2 : v1 = 0 := z2
      subst z1 z2
      simp only [Option.bind_some, reduceIte, if_true, if_false, Bool.false_eq_true, ck_tt]
      exact E2.ok ⟨_, rfl, I2, W2, k2, p2, r2, rfl, rfl, hT2, fun c c1 c2 => (fr2 c c1 c2).trans (fr c c1 c2), fw.trans fw2, Or.inl ⟨rfl, rfl, z3⟩⟩
    · have z1 : u1 = 1 := z1
      have z2 : v1 = 1 := z2
      subst z1 z2
      have hrng2 := hT2.rng
      have hg3 : g ≤ g2 := by
        have b1 := hW1.gb
        have b2 := hW1.g12
        have b3 := hW2.g12
        rw [e0] at b1
        have := (nI_eq (by omega) (by omega)).mp b1
        omega
      have hB2 : BT N I2 (pt J p2 r2) b L n st E k2 := ⟨hT2, hB0.pt p2 r2, p2, pt_9 _ _ _, hA2.2.1, hA2.2.2⟩
      have bl := m_blkR (W := W2) hB2 hm
      have sm := b_semi (W := W2) hB2 hm hA2.1
      have tk := a_take hB2 hs hA2.1 (show 5 ≤ 36 by omega) (show 5 ≠ 2 by omega)
      rw [hB2.self] at tk
      rw [pt_pt] at bl sm
      simp only [i32_10, Option.bind_some, reduceIte, if_true, if_false, Bool.false_eq_true, ck_tt, v_fR q0, r0, v_qS, kt, c_tok hs hT2, ck_tt (show kR N 1004 k2 ≤ 36 ∧ 2 ≤ 36 from ⟨hrng2.2, by omega⟩), tk_2 hT2, mo_k hm, bl, v_qS, mo_k hm, mw_f hm, mo_r1 hm, mw_gates hm, mw_walkers hm, pt_9, e10p, cmpE k2 hA2.1]
      by_cases c2 : k2 = n
      · simp only [c2, Option.bind_some, reduceIte, if_true, if_false, Bool.false_eq_true, ck_tt]
        refine E2.ok ⟨_, rfl, I2, W2, k2, st n, st n, rfl, rfl, hT2, fun c c1 c2 => (fr2 c c1 c2).trans (fr c c1 c2), fw.trans fw2, Or.inr ⟨rfl, ?_, g, g2, w2, hW.gb, hg3, hW2⟩⟩
        show (0 : Int32) ≤ nI i + 1
        rw [show nI i + (1 : Int32) = nI (i + 1) from nI_add i 1]
        exact nI_pos' (by omega)
      · simp only [c2, Option.bind_some, reduceIte, if_true, if_false, Bool.false_eq_true, ck_tt, tk, sm, i32_10]
        by_cases c5 : kR N 1004 k2 = 5
        · have hk' := hB2.klt hA2.1 c5 (by omega)
          have eE := b_semiE hB2 hA2.1 c5
          simp only [c5, Option.bind_some, reduceIte, if_true, if_false, Bool.false_eq_true, ck_tt, i32_10, v_qS, mo_k hm, mw_f hm, mo_r1 hm, mw_gates hm, mw_walkers hm, mw_s hm, pt_9, show nI (st k2) + (1 : Int32) = nI (st k2 + 1) from nI_add _ 1, pt_u9, show nI i + (1 : Int32) = nI (i + 1) from nI_add i 1]
          refine E2.ok ⟨at6 I2 (k2 + 1), W2, k2 + 1, st k2 + 1, st k2, rfl, rfl, hT2.at (by omega), ?_, fun c c1 c2 => ?_, fw.trans fw2, g2, w2, hg3, hW2.at6 _⟩
          · rw [← eE]; exact hB2.atE hk'
          · rw [at6_r c1]; exact (fr2 c c1 c2).trans (fr c c1 c2)
        · simp only [c5, Option.bind_some, reduceIte, if_true, if_false, Bool.false_eq_true, ck_tt]
          exact E2.ok ⟨_, rfl, I2, W2, k2, st k2, st k2, rfl, rfl, hT2, fun c c1 c2 => (fr2 c c1 c2).trans (fr c c1 c2), fw.trans fw2, Or.inl ⟨rfl, rfl, rfl⟩⟩
  · rintro s t ⟨I1, W1, k, p, r, rfl, rfl, hTC, hA, fr, fw, g1, w1, hg1, hW1⟩
    have hB : BT N I1 (pt J p r) b L n st E k := ⟨hTC, hB0.pt p r, p, pt_9 _ _ _, hA.2.1, hA.2.2⟩
    have hlet := b_let (W := W1) (r := r) hB hm hA
    rw [pt_pt, pt_pt] at hlet
    unfold F_Mo_readLine
    simp only [show ((14 : Int32) ≤ nI 14) = True from cm_leT (b := 14) (Nat.le_refl _) (by omega), Option.bind_some, reduceIte, if_true, if_false, Bool.false_eq_true, ck_tt, v_qS, mo_k hm, hlet, i32_10, bdS_l]
    exact E2.ok ⟨_, rfl, I1, W1, k, _, _, rfl, rfl, hTC, fr, fw, Or.inl ⟨rfl, rfl, rfl⟩⟩
end ALL
