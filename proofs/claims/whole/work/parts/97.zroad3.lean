/-! both sides in the midst of a line: the class at token k, the other side's point p, begin r -/
def at6 (I : IM) (k : Nat) : IM := u2 I 1003 6 (nI k)
def AT (st E : Nat → Nat) (n k p : Nat) : Prop := k ≤ n ∧ E k ≤ p ∧ p ≤ st k
section MID
variable {k k0 n L q s e r t i c x d g w p : Nat} {b st E : Nat → Nat} {I I' : IM} {N N' K : NM} {J J' : IM} {W W' : Nat → Int32} {v : Int32}
theorem at6_o {j : Nat} (h : ¬ (c = 1003 ∧ j = 6)) : at6 I k c j = I c j := u2_n _ _ _ _ h
theorem at6_r (h : c ≠ 1003) : at6 I k c = I c := u2_o _ _ _ _ h
theorem at6_at6 (q : Nat) : u2 (at6 I k) 1003 6 (nI q) = at6 I q := by
  refine funext fun c => funext fun j => ?_
  by_cases z : c = 1003 ∧ j = 6
  · rw [z.1, z.2, u2_s]; exact (u2_s _ _ _ _).symm
  · rw [u2_n _ _ _ _ z, at6_o z, at6_o z]
theorem BT.self (h : BT N I J b L n st E k) : at6 I k = I := by
  unfold at6
  rw [← h.1.2.2.1.2.1, u2_self]
theorem BT.mid (h : BT N I J b L n st E k0) (ha : AT st E n k p) (r : Nat) : BT N (at6 I k) (pt J p r) b L n st E k :=
  ⟨h.1.at ha.1, h.2.1.pt _ _, p, pt_9 _ _ _, ha.2.1, ha.2.2⟩
theorem BT.at0 (h : BT N I J b L n st E k0) : AT st E n k0 (st k0) := ⟨h.1.2.2.1.2.2, (h.1.2.1.2.1 k0 h.1.2.2.1.2.2).1, Nat.le_refl _⟩
theorem BT.atE (h : BT N I J b L n st E k0) (hk : k < n) : AT st E n (k + 1) (E (k + 1)) := ⟨by omega, Nat.le_refl _, (h.1.2.1.2.1 (k + 1) (by omega)).1⟩
theorem BT.atS (h : BT N I J b L n st E k0) (hk : k ≤ n) : AT st E n k (st k) := ⟨hk, (h.1.2.1.2.1 k hk).1, Nat.le_refl _⟩
theorem BT.atF (h : BT N I J b L n st E k0) {top : Int32} (hn : 0 ≤ nuV b st E n k d top) : AT st E n (k + 1) (fE b st E n k) := by
  obtain ⟨h1, h2⟩ := nuV_lt hn
  rw [h2]
  exact h.atE h1
theorem BT.klt (h : BT N I J b L n st E k0) (hk : k ≤ n) (c : kR N 1004 k = t) (ht : t ≠ 2) : k < n := by
  by_cases z : k = n
  · rw [z, h.1.2.2.2.2.2.2] at c; exact absurd c.symm ht
  · omega
theorem BT.kn (h : BT N I J b L n st E k0) (hk : k ≤ n) (ht : t ≠ 2) : (k < n ∧ kR N 1004 k = t) = (kR N 1004 k = t) := propext ⟨fun z => z.2, fun z => ⟨h.klt hk z ht, z⟩⟩
theorem wd_2 (hw : (r, i) ∈ wdT) : i + 1 ≠ 2 := by
  obtain ⟨w1, w2⟩ := Bool.and_eq_true_iff.mp (wdT_at hw)
  obtain ⟨w2, w3⟩ := Bool.and_eq_true_iff.mp w2
  obtain ⟨a1, a2, a3, a4, a5, a6⟩ := of_decide_eq_true w2
  omega
theorem sg_2 (hw : (c, i) ∈ sgT) : i + 1 ≠ 2 := by
  obtain ⟨a1, a2, a3, a4, a5, a6⟩ := of_decide_eq_true (sgT_at hw)
  omega
theorem b_num (h : BT N I J b L n st E k0) (hm : MN K) (ha : AT st E n k p) (top : Int32) : F_Mo_number 1528 0 top (rowI (pt J p r) 1529 W, K) = some (nuV b st E n k 3 top, (rowI (pt J (fE b st E n k) (st k)) 1529 W, K)) := by
  rw [m_numR (h.mid ha r) hm, pt_pt]
theorem b_fig (h : BT N I J b L n st E k0) (hm : MN K) (ha : AT st E n k p) (hd : d ≤ 4) {y : Int32} (hy : y = nI d) (top : Int32) : F_Mo_figures 1528 0 top y (rowI (pt J p r) 1529 W, K) = some (nuV b st E n k d top, (rowI (pt J (fE b st E n k) (st k)) 1529 W, K)) := by
  rw [hy, (h.mid ha r).toRow.figM hm hd, pt_row, pt_pt]
theorem b_word (h : BT N I J b L n st E k0) (hm : MN K) (ha : AT st E n k p) (hw : (r, i) ∈ wdT) : F_Mo_passes 1528 r (rowI (pt J p q) 1529 W, K) = some (if kR N 1004 k = i + 1 then (1, (rowI (pt J (E (k + 1)) (st k)) 1529 W, K)) else (0, (rowI (pt J (st k) (st k)) 1529 W, K))) := by
  rw [(h.mid ha q).toRow.word hm (wdT_at hw), pt_row, pt_row, pt_pt, pt_pt]
  simp only [h.kn ha.1 (wd_2 hw)]
theorem b_sign (h : BT N I J b L n st E k0) (hm : MN K) (ha : AT st E n k p) (hw : (c, i) ∈ sgT) {y : Int32} (hy : y = nI c) : F_Mo_sign 1528 y (rowI (pt J p q) 1529 W, K) = some (if kR N 1004 k = i + 1 then (1, (rowI (pt J (E (k + 1)) (st k)) 1529 W, K)) else (0, (rowI (pt J (st k) (st k)) 1529 W, K))) := by
  rw [hy, (h.mid ha q).toRow.sign hm (sgT_at hw), pt_row, pt_row, pt_pt, pt_pt]
  simp only [h.kn ha.1 (sg_2 hw)]
theorem b_blk (h : BT N I J b L n st E k0) (hm : MN K) (ha : AT st E n k p) : F_Mo_blanks 1528 (rowI (pt J p r) 1529 W, K) = some (rowI (pt J (st k) (st k)) 1529 W, K) := by
  rw [m_blkR (h.mid ha r) hm, pt_pt]
theorem b_dig (h : BT N I J b L n st E k0) (hm : MN K) (hk : k ≤ n) : F_Mo_isAt 1528 48 57 (rowI (pt J (st k) (st k)) 1529 W, K) = some (if kR N 1004 k = 1 then 1 else 0) := by
  have := m_digR (W := W) (h.mid (h.atS hk) (st k)) hm
  rw [pt_pt] at this
  simp only [h.kn hk (show 1 ≠ 2 by omega)] at this
  exact this
theorem b_let (h : BT N I J b L n st E k0) (hm : MN K) (ha : AT st E n k p) : F_Mo_letters 1528 (rowI (pt J p r) 1529 W, K) = some (rowI (pt J (wE b st E n k) (st k)) 1529 W, K) := by
  obtain ⟨h1, h2, q, e9, q1, q2⟩ := (h.mid ha r).toRow (W := W)
  rw [m_letters hm h2 h1.2.1 ha.1 q1 q2 e9, pt_row, pt_pt]
theorem b_is (h : BT N I J b L n st E k0) (hm : MN K) (hk : k ≤ n) (hw : (r, i) ∈ wdT) : F_Mo_isWord 1528 r (rowI (pt J (wE b st E n k) (st k)) 1529 W, K) = some (if kR N 1004 k = i + 1 then 1 else 0) := by
  have hB := h.mid (h.atS hk) (st k)
  obtain ⟨w1, w2⟩ := Bool.and_eq_true_iff.mp (wdT_at hw)
  obtain ⟨w2, w3⟩ := Bool.and_eq_true_iff.mp w2
  obtain ⟨a1, a2, a3, a4, a5, a6⟩ := of_decide_eq_true w2
  have hT := h.1.2.1
  have hb : MBy (rowI J 1529 W) b L := by
    have := (h.toRow (W := W)).2.1
    exact this
  have hwe : st k ≤ wE b st E n k ∧ wE b st E n k ≤ L := by
    have := hT.st_le hk
    unfold wE
    by_cases z : k < n ∧ srt (b (st k)) = 1
    · rw [if_pos z]
      have := hB.1.lt z.1
      omega
    · rw [if_neg z]
      omega
  rw [← pt_row, m_isWord hm hb ⟨a3, a4⟩ a2 hwe.1 hwe.2]
  have := tok_wd hB.1 (wdT_at hw)
  unfold isW at this
  rw [this]
  simp only [h.kn hk (wd_2 hw)]
  by_cases z : kR N 1004 k = i + 1
  · rw [decide_eq_true z, if_pos z]; rfl
  · rw [decide_eq_false z, if_neg z]; rfl
theorem a_num (h : BT N I J b L n st E k0) (hs : Shp N) (hk : k ≤ n) (hd : d ≤ 4) {y : Int32} (hy : y = nI d) (top : Int32) : F_Text_number 1003 y top (at6 I k, N) = some (nuV b st E n k d top, if 0 ≤ nuV b st E n k d top then (at6 I (k + 1), N) else (at6 I k, N)) := by
  rw [hy, (h.mid (h.atS hk) 0).figC hs hd, at6_at6]
theorem a_tok (h : BT N I J b L n st E k0) (hs : Shp N) (hk : k ≤ n) : F_Text_token 1003 (at6 I k, N) = some (kR N 1004 k) := c_tok hs (h.1.at hk)
theorem a_start (h : BT N I J b L n st E k0) (hs : Shp N) (hk : k ≤ n) : F_Text_start 1003 (at6 I k, N) = some (nI (st k)) := c_start hs (h.1.at hk)
theorem a_adv (h : BT N I J b L n st E k0) (hs : Shp N) (hk : k < n) : F_Text_advance 1003 (at6 I k, N) = some (at6 I (k + 1), N) := by
  rw [show at6 I k = u2 I 1003 6 (nI k) from rfl, c_adv hs (h.1.at (Nat.le_of_lt hk)) hk]
  rw [show u2 I 1003 6 (nI k) = at6 I k from rfl, at6_at6]
theorem a_take (h : BT N I J b L n st E k0) (hs : Shp N) (hk : k ≤ n) (ht : t ≤ 36) (h2 : t ≠ 2) : F_Text_take 1003 t (at6 I k, N) = some (if kR N 1004 k = t then (1, (at6 I (k + 1), N)) else (0, (at6 I k, N))) := by
  rw [show at6 I k = u2 I 1003 6 (nI k) from rfl, c_take hs (h.1.at hk) ht]
  rw [show u2 I 1003 6 (nI k) = at6 I k from rfl, at6_at6]
  simp only [h.kn hk h2]
theorem a_gate (h : BT N I J b L n st E k0) (hs : Shp N) (hk : k ≤ n) (eg : I 1040 0 = nI g) : F_RoadReader_readOneGate 1073 (at6 I k, N) = some (nuV b st E n k 3 (nI g - 1), if 0 ≤ nuV b st E n k 3 (nI g - 1) then (at6 I (k + 1), N) else (at6 I k, N)) := by
  rw [c_oneGate (h.mid (h.atS hk) 0) hs (by rw [at6_r (by omega)]; exact eg), at6_at6]
theorem a_walker (h : BT N I J b L n st E k0) (hs : Shp N) (hk : k ≤ n) (eg : I 1040 4 = nI w) : F_RoadReader_readOneWalker 1073 (at6 I k, N) = some (nuV b st E n k 3 (nI w - 1), if 0 ≤ nuV b st E n k 3 (nI w - 1) then (at6 I (k + 1), N) else (at6 I k, N)) := by
  obtain ⟨k0, r0, r1⟩ := hs.2.2.2.2.1
  have kt : kS N 1003 = 16 := hs.2.2.1.1
  have kw := wa_k hs.2.2.2.1.2.1
  unfold F_RoadReader_readOneWalker
  simp only [v_fR k0, r0, r1, v_fI kw, at6_r (show 1040 ≠ 1003 by omega), eg, Option.bind_some, reduceIte, if_true, if_false, Bool.false_eq_true, ck_tt, v_qS, kt, a_num h hs hk (show 3 ≤ 4 by omega) (show (3 : Int32) = nI 3 from rfl)]
end MID
