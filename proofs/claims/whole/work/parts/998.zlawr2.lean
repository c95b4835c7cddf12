/-! a part of a sum, read by both -/
def factB (t : Nat) : Bool := decide (t = 11 ∨ (31 ≤ t ∧ t ≤ 36))
theorem c_isFact {t : Nat} (h1 : 1 ≤ t) (h2 : t ≤ 36) (M : Mem) : F_Law_isFact t M = some (if factB t = true then 1 else 0) := by
  unfold F_Law_isFact factB
  have s1 := sw_is (show (1, 10) ∈ swJ by decide) h1 h2
  have s2 := sw_is (show (13, 30) ∈ swJ by decide) h1 h2
  have s3 := sw_is (show (14, 31) ∈ swJ by decide) h1 h2
  have s4 := sw_is (show (15, 32) ∈ swJ by decide) h1 h2
  have s5 := sw_is (show (16, 33) ∈ swJ by decide) h1 h2
  have s6 := sw_is (show (17, 34) ∈ swJ by decide) h1 h2
  have s7 := sw_is (show (18, 35) ∈ swJ by decide) h1 h2
  simp only [show nI 1 = (1 : Int32) from rfl, show nI 13 = (13 : Int32) from rfl, show nI 14 = (14 : Int32) from rfl, show nI 15 = (15 : Int32) from rfl, show nI 16 = (16 : Int32) from rfl, show nI 17 = (17 : Int32) from rfl, show nI 18 = (18 : Int32) from rfl, Nat.reduceAdd] at s1 s2 s3 s4 s5 s6 s7
  simp only [t_ord h1 h2, t_sw h1 h2, Option.bind_some, s1, s2, s3, s4, s5, s6, s7, decide_eq_true_eq]
  by_cases a : t = 11 ∨ (31 ≤ t ∧ t ≤ 36)
  · rw [if_pos a]
    have : t = 11 ∨ t = 31 ∨ t = 32 ∨ t = 33 ∨ t = 34 ∨ t = 35 ∨ t = 36 := by omega
    rcases this with rfl | rfl | rfl | rfl | rfl | rfl | rfl <;> rfl
  · rw [if_neg a, if_neg (by omega), if_neg (by omega), if_neg (by omega), if_neg (by omega), if_neg (by omega), if_neg (by omega), if_neg (by omega)]
section LAWP
variable {a k k0 n L q s e r t i c d g w p m dep : Nat} {b st E : Nat → Nat} {I I' I0 : IM} {N N' N0 K : NM} {J J' J0 : IM} {W W' W0 : Nat → Int32} {x y z : Int32} {S R l : List stT}
theorem d_let (h : BT N I J b L n st E k) (hm : MN K) : F_Mo_letters 1528 (rowI J 1529 W, K) = some (rowI (pt J (wE b st E n k) (st k)) 1529 W, K) := by
  obtain ⟨h1, h2, q, e9, q1, q2⟩ := h.toRow (W := W)
  rw [m_letters hm h2 h1.2.1 h1.2.2.1.2.2 q1 q2 e9, pt_row]
theorem d_word (h : BT N I J b L n st E k) (hm : MN K) (hw : (r, i) ∈ wdT) : F_Mo_passes 1528 r (rowI J 1529 W, K) = some (if kR N 1004 k = i + 1 then (1, (rowI (pt J (E (k + 1)) (st k)) 1529 W, K)) else (0, (rowI (pt J (st k) (st k)) 1529 W, K))) := by
  rw [h.toRow.word hm (wdT_at hw), pt_row, pt_row]
  simp only [h.kn h.1.2.2.1.2.2 (wd_2 hw)]
theorem d_sign (h : BT N I J b L n st E k) (hm : MN K) (hw : (c, i) ∈ sgT) {y : Int32} (hy : y = nI c) : F_Mo_sign 1528 y (rowI J 1529 W, K) = some (if kR N 1004 k = i + 1 then (1, (rowI (pt J (E (k + 1)) (st k)) 1529 W, K)) else (0, (rowI (pt J (st k) (st k)) 1529 W, K))) := by
  rw [hy, h.toRow.sign hm (sgT_at hw), pt_row, pt_row]
  simp only [h.kn h.1.2.2.1.2.2 (sg_2 hw)]
theorem e_take (h : TC N I b L n st E k) (hs : Shp N) (ht : t ≤ 36) (h2 : t ≠ 2) : F_Text_take 1003 t (I, N) = some (if kR N 1004 k = t then (1, (u2 I 1003 6 (nI (k + 1)), N)) else (0, (I, N))) := by
  rw [c_take hs h ht]
  have : (k < n ∧ kR N 1004 k = t) = (kR N 1004 k = t) := propext ⟨fun z => z.2, fun z => ⟨by
    have := h.2.2.1.2.2
    by_cases e : k = n
    · rw [e, h.2.2.2.2.2.2] at z; exact absurd z.symm h2
    · omega, z⟩⟩
  simp only [this]
theorem nuV_tok {top : Int32} (h : TC N I b L n st E k) (hn : 0 ≤ nuV b st E n k d top) : kR N 1004 k = 1 := by
  have hlt := nuV_lt hn
  refine (tk_num (h.2.2.2.2.2.1 k hlt.1) (h.lt hlt.1).1).mpr ?_
  by_cases z : srt (b (st k)) = 2
  · exact z
  · exfalso
    unfold nuV fgN at hn
    have : fE b st E n k = st k := by unfold fE; rw [if_neg (fun y => z y.2)]
    rw [if_pos (Or.inl this)] at hn
    exact absurd hn (by decide)
theorem p_part (h : LQ N I J W b L n st E S R k dep) (hm : MN K) (hR : R.length < 400) :
    (∃ c y, c ≤ 8 ∧ c ≠ 7 ∧ k < n ∧ kR N 1004 k = tkOf c ∧ (c = 8 → nuV b st E n k 3 999 = y ∧ 0 ≤ y) ∧ (c < 8 → y = 0) ∧ F_Mo_readPart 1528 (rowI J 1529 W, K) = some (1, (rowI (emJ (pt J (E (k + 1)) (st k)) R.length) 1529 (emW W R.length (nI c) y), K))) ∨
    (¬ 0 ≤ nuV b st E n k 3 999 ∧ factB (kR N 1004 k) = false ∧ ∃ J' W', F_Mo_readPart 1528 (rowI J 1529 W, K) = some (0, (rowI J' 1529 W', K)) ∧ J' 1528 11 = nI (st k) ∧ FRL N I J W 1238 N I J' W') := by
  obtain ⟨hB, hC, hM, hD⟩ := h
  have hk := hB.1.2.2.1.2.2
  have hn := hB.1.n_le
  have hT := hB.1.2.1
  have hsl := hT.st_le hk
  have b1 := b_is (W := W) hB hm hk (show (139, 10) ∈ wdT by decide)
  have b2 := b_is (W := W) hB hm hk (show (146, 30) ∈ wdT by decide)
  have b3 := b_is (W := W) hB hm hk (show (147, 31) ∈ wdT by decide)
  have b4 := b_is (W := W) hB hm hk (show (148, 32) ∈ wdT by decide)
  have b5 := b_is (W := W) hB hm hk (show (149, 33) ∈ wdT by decide)
  have b6 := b_is (W := W) hB hm hk (show (150, 34) ∈ wdT by decide)
  have b7 := b_is (W := W) hB hm hk (show (151, 35) ∈ wdT by decide)
  simp only [Nat.reduceAdd] at b1 b2 b3 b4 b5 b6 b7
  have em := fun cc y => m_emits (W := W) hm (hM.pt (wE b st E n k) (st k)) hR cc y
  have em2 := fun cc y => m_emits (W := W) hm (hM.pt (fE b st E n k) (st k)) hR cc y
  unfold F_Mo_readPart
  simp only [v_qS, mo_k hm, mw_f hm, mo_r1 hm, mw_gates hm, mw_walkers hm, Option.bind_some, reduceIte, if_true, if_false, Bool.false_eq_true, ck_tt, d_let hB hm, pt_9, pt_11]
  by_cases hl : k < n ∧ srt (b (st k)) = 1
  · have eW : wE b st E n k = E (k + 1) := by unfold wE; rw [if_pos hl]
    have hlt := hB.1.lt hl.1
    have ne : (nI (wE b st E n k) = nI (st k)) = False := eq_false (by rw [eW, nI_eq (by omega) (by omega)]; omega)
    have nn : ¬ 0 ≤ nuV b st E n k 3 999 := fun z => by
      have := (tk_num (hB.1.2.2.2.2.2.1 k hl.1) hlt.1).mp (nuV_tok hB.1 z)
      omega
    simp only [ne, Option.bind_some, reduceIte, if_true, if_false, Bool.false_eq_true, ck_tt]
    have good : ∀ c, c ≤ 6 → kR N 1004 k = tkOf c → F_Mo_emits 1528 (nI c) 0 (rowI (pt J (wE b st E n k) (st k)) 1529 W, K) = some (rowI (emJ (pt J (E (k + 1)) (st k)) R.length) 1529 (emW W R.length (nI c) 0), K) := fun c _ _ => by rw [em, eW]
    by_cases c1 : kR N 1004 k = 11
    · have g := good 0 (by omega) c1
      simp only [c1, Option.bind_some, reduceIte, if_true, if_false, Bool.false_eq_true, ck_tt] at b1
      rw [show nI 0 = (0 : Int32) from rfl] at g
      simp only [b1, i32_10, Option.bind_some, reduceIte, if_true, if_false, Bool.false_eq_true, ck_tt, g, show ((0 : Int32) < 0) = False from eq_false (by decide)]
      exact Or.inl ⟨0, 0, by omega, by omega, hl.1, c1, fun z => by omega, fun _ => rfl, rfl⟩
    simp only [c1, Option.bind_some, reduceIte, if_true, if_false, Bool.false_eq_true, ck_tt] at b1
    by_cases c2 : kR N 1004 k = 31
    · have g := good 1 (by omega) c2
      simp only [c2, Option.bind_some, reduceIte, if_true, if_false, Bool.false_eq_true, ck_tt] at b2
      rw [show nI 1 = (1 : Int32) from rfl] at g
      simp only [b1, b2, i32_10, Option.bind_some, reduceIte, if_true, if_false, Bool.false_eq_true, ck_tt, g, show ((1 : Int32) < 0) = False from eq_false (by decide)]
      exact Or.inl ⟨1, 0, by omega, by omega, hl.1, c2, fun z => by omega, fun _ => rfl, rfl⟩
    simp only [c2, Option.bind_some, reduceIte, if_true, if_false, Bool.false_eq_true, ck_tt] at b2
    by_cases c3 : kR N 1004 k = 32
    · have g := good 2 (by omega) c3
      simp only [c3, Option.bind_some, reduceIte, if_true, if_false, Bool.false_eq_true, ck_tt] at b3
      rw [show nI 2 = (2 : Int32) from rfl] at g
      simp only [b1, b2, b3, i32_10, Option.bind_some, reduceIte, if_true, if_false, Bool.false_eq_true, ck_tt, g, show ((2 : Int32) < 0) = False from eq_false (by decide)]
      exact Or.inl ⟨2, 0, by omega, by omega, hl.1, c3, fun z => by omega, fun _ => rfl, rfl⟩
    simp only [c3, Option.bind_some, reduceIte, if_true, if_false, Bool.false_eq_true, ck_tt] at b3
    by_cases c4 : kR N 1004 k = 33
    · have g := good 3 (by omega) c4
      simp only [c4, Option.bind_some, reduceIte, if_true, if_false, Bool.false_eq_true, ck_tt] at b4
      rw [show nI 3 = (3 : Int32) from rfl] at g
      simp only [b1, b2, b3, b4, i32_10, Option.bind_some, reduceIte, if_true, if_false, Bool.false_eq_true, ck_tt, g, show ((3 : Int32) < 0) = False from eq_false (by decide)]
      exact Or.inl ⟨3, 0, by omega, by omega, hl.1, c4, fun z => by omega, fun _ => rfl, rfl⟩
    simp only [c4, Option.bind_some, reduceIte, if_true, if_false, Bool.false_eq_true, ck_tt] at b4
    by_cases c5 : kR N 1004 k = 34
    · have g := good 4 (by omega) c5
      simp only [c5, Option.bind_some, reduceIte, if_true, if_false, Bool.false_eq_true, ck_tt] at b5
      rw [show nI 4 = (4 : Int32) from rfl] at g
      simp only [b1, b2, b3, b4, b5, i32_10, Option.bind_some, reduceIte, if_true, if_false, Bool.false_eq_true, ck_tt, g, show ((4 : Int32) < 0) = False from eq_false (by decide)]
      exact Or.inl ⟨4, 0, by omega, by omega, hl.1, c5, fun z => by omega, fun _ => rfl, rfl⟩
    simp only [c5, Option.bind_some, reduceIte, if_true, if_false, Bool.false_eq_true, ck_tt] at b5
    by_cases c6 : kR N 1004 k = 35
    · have g := good 5 (by omega) c6
      simp only [c6, Option.bind_some, reduceIte, if_true, if_false, Bool.false_eq_true, ck_tt] at b6
      rw [show nI 5 = (5 : Int32) from rfl] at g
      simp only [b1, b2, b3, b4, b5, b6, i32_10, Option.bind_some, reduceIte, if_true, if_false, Bool.false_eq_true, ck_tt, g, show ((5 : Int32) < 0) = False from eq_false (by decide)]
      exact Or.inl ⟨5, 0, by omega, by omega, hl.1, c6, fun z => by omega, fun _ => rfl, rfl⟩
    simp only [c6, Option.bind_some, reduceIte, if_true, if_false, Bool.false_eq_true, ck_tt] at b6
    by_cases c7 : kR N 1004 k = 36
    · have g := good 6 (by omega) c7
      simp only [c7, Option.bind_some, reduceIte, if_true, if_false, Bool.false_eq_true, ck_tt] at b7
      rw [show nI 6 = (6 : Int32) from rfl] at g
      simp only [b1, b2, b3, b4, b5, b6, b7, i32_10, Option.bind_some, reduceIte, if_true, if_false, Bool.false_eq_true, ck_tt, g, show ((6 : Int32) < 0) = False from eq_false (by decide)]
      exact Or.inl ⟨6, 0, by omega, by omega, hl.1, c7, fun z => by omega, fun _ => rfl, rfl⟩
    simp only [c7, Option.bind_some, reduceIte, if_true, if_false, Bool.false_eq_true, ck_tt] at b7
    simp only [b1, b2, b3, b4, b5, b6, b7, Option.bind_some, reduceIte, if_true, if_false, Bool.false_eq_true, ck_tt, em, show ((-1 : Int32) < 0) = True from eq_true (by decide)]
    refine Or.inr ⟨nn, ?_, _, _, rfl, ?_, (FRL.pt _ _).trans ⟨fun _ _ _ _ => rfl, ⟨rfl, rfl, fun _ _ => rfl⟩, fun c j z => u2_n _ _ _ _ (by omega), fun j hj => ?_⟩⟩
    · unfold factB; exact decide_eq_false (by omega)
    · unfold emJ; rw [u2_n _ _ _ _ (by omega), pt_11]
    · unfold emW; rw [pk_un (by omega), pk_un (by omega)]
  · have eW : wE b st E n k = st k := by unfold wE; rw [if_neg hl]
    have hA := hB.atS hk
    simp only [eW, Option.bind_some, reduceIte, if_true, if_false, Bool.false_eq_true, ck_tt, v_qS, mo_k hm, mw_f hm, mo_r1 hm, mw_gates hm, mw_walkers hm, b_num hB hm hA, em2]
    have nf : factB (kR N 1004 k) = false := by
      unfold factB
      refine decide_eq_false fun z => ?_
      have key : ∀ r i, (r, i) ∈ wdT → kR N 1004 k = i + 1 → False := fun r i hw c => by
        have e := b_wE hB hk hw c
        have h1 := hB.klt hk c (wd_2 hw)
        have h2 := hB.1.lt h1
        rw [eW] at e
        omega
      have : kR N 1004 k = 11 ∨ kR N 1004 k = 31 ∨ kR N 1004 k = 32 ∨ kR N 1004 k = 33 ∨ kR N 1004 k = 34 ∨ kR N 1004 k = 35 ∨ kR N 1004 k = 36 := by omega
      rcases this with c | c | c | c | c | c | c
      · exact key 139 10 (by decide) c
      · exact key 146 30 (by decide) c
      · exact key 147 31 (by decide) c
      · exact key 148 32 (by decide) c
      · exact key 149 33 (by decide) c
      · exact key 150 34 (by decide) c
      · exact key 151 35 (by decide) c
    by_cases hv : 0 ≤ nuV b st E n k 3 999
    · have hlt := nuV_lt hv
      have hv' : (nuV b st E n k 3 999 < 0) = False := eq_false (Int32.not_lt.mpr hv)
      simp only [hv', Option.bind_some, reduceIte, if_true, if_false, Bool.false_eq_true, ck_tt, hlt.2]
      exact Or.inl ⟨8, _, by omega, by omega, hlt.1, nuV_tok hB.1 hv, fun _ => ⟨rfl, hv⟩, fun z => by omega, rfl⟩
    · have hv' : (nuV b st E n k 3 999 < 0) = True := eq_true (Int32.not_le.mp hv)
      simp only [hv', Option.bind_some, reduceIte, if_true, if_false, Bool.false_eq_true, ck_tt]
      refine Or.inr ⟨hv, nf, _, _, rfl, ?_, (FRL.pt _ _).trans ⟨fun _ _ _ _ => rfl, ⟨rfl, rfl, fun _ _ => rfl⟩, fun c j z => u2_n _ _ _ _ (by omega), fun j hj => ?_⟩⟩
      · unfold emJ; rw [u2_n _ _ _ _ (by omega), pt_11]
      · unfold emW; rw [pk_un (by omega), pk_un (by omega)]
end LAWP
