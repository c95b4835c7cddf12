/-! the tape -/
def shf : Nat → Int32
  | 0 => 24
  | 1 => 16
  | 2 => 8
  | 3 => 0
  | _ => -8
def cbV (a : Int32) (j : Nat) : Int32 := (a.toUInt32 >>> ((shf j).toUInt32 &&& Int32.toUInt32 31)).toInt32 &&& (255 : Int32)
def mbV (a : Int32) (j : Nat) : Int32 := (a >>> (shf j &&& 31)).toInt8.toInt32
theorem cb_bv (a : Int32) {j : Nat} (hj : j < 4) : (cbV a j).toBitVec = (a.toBitVec >>> (24 - 8 * j)) &&& 255#32 := by
  have : j = 0 ∨ j = 1 ∨ j = 2 ∨ j = 3 := by omega
  rcases this with rfl | rfl | rfl | rfl <;> rfl
theorem mb_bv (a : Int32) {j : Nat} (hj : j < 4) : (a >>> (shf j &&& 31)).toBitVec = a.toBitVec.sshiftRight (24 - 8 * j) := by
  have : j = 0 ∨ j = 1 ∨ j = 2 ∨ j = 3 := by omega
  rcases this with rfl | rfl | rfl | rfl <;> rfl
theorem by_eq (a : Int32) {j : Nat} (hj : j < 4) : ∃ x, x < 256 ∧ cbV a j = nI x ∧ mbV a j = (nI x).toInt8.toInt32 := by
  refine ⟨(cbV a j).toBitVec.toNat, ?_, nI_toBV _, ?_⟩
  · rw [cb_bv a hj, BitVec.toNat_and]
    exact Nat.lt_of_le_of_lt Nat.and_le_right (by decide)
  · rw [← nI_toBV]
    unfold mbV
    congr 1
    refine Int8.toBitVec_inj.mp ?_
    rw [Int32.toBitVec_toInt8, Int32.toBitVec_toInt8, cb_bv a hj, mb_bv a hj]
    refine BitVec.eq_of_getLsbD_eq fun i hi => ?_
    rw [BitVec.signExtend_eq_setWidth_of_le _ (by omega), BitVec.signExtend_eq_setWidth_of_le _ (by omega), BitVec.getLsbD_setWidth, BitVec.getLsbD_setWidth, BitVec.getLsbD_sshiftRight, BitVec.getLsbD_and, BitVec.getLsbD_ushiftRight, show (255#32) = BitVec.ofNat 32 (2 ^ 8 - 1) from rfl, BitVec.getLsbD_ofNat, Nat.testBit_two_pow_sub_one]
    simp [hi, show 24 - 8 * j + i < 32 by omega, show i < 32 by omega]
theorem re_8 (x : Int32) : x.toInt8.toInt32.toInt8.toInt32 = x.toInt8.toInt32 := by simp
section TAPE
variable {a b c d s g w k v q p n L o hh n' L' t r : Nat} {I I' I2 : IM} {W W' : Nat → Int32} {N N' N2 K : NM} {J J' J2 : IM} {M M' : Mem} {P : List lnT} {tr : Nat → Int32} {x y z : Int32}
theorem c_add (hs : Shp N) (a : Int32) (hL : L + 4 ≤ 400) (eL : I 1001 1 = nI L) : E1 (F_Tape_add 1001 a (I, N)) (fun M => ∃ I', M = (I', N) ∧ I' 1001 1 = nI (L + 4) ∧ (∀ c j, ¬ (c = 1001 ∧ j = 1) → ¬ (c = 1002 ∧ L ≤ j) → I' c j = I c j) ∧ ∀ j, j < 4 → I' 1002 (L + j) = cbV a j) := by
  obtain ⟨k0, r0, k1, n1⟩ := hs.2.1
  unfold F_Tape_add
  refine lq1 (fun i s => ∃ I', s = (shf i, (I', N)) ∧ I' 1001 1 = nI (L + i) ∧ (∀ c j, ¬ (c = 1001 ∧ j = 1) → ¬ (c = 1002 ∧ L ≤ j) → I' c j = I c j) ∧ ∀ j, j < i → I' 1002 (L + j) = cbV a j) _ 4 (lim_lt (by omega)) (Nat.zero_le _) ⟨I, rfl, eL, fun _ _ _ _ => rfl, fun j hj => absurd hj (Nat.not_lt_zero _)⟩ ?_ ?_
  · rintro i s hi ⟨I1, rfl, f1, f2, f3⟩
    have e1 : (shf i < 0) = False := by
      have : i = 0 ∨ i = 1 ∨ i = 2 ∨ i = 3 := by omega
      rcases this with rfl | rfl | rfl | rfl <;> exact eq_false (by decide)
    have e2 : shf i + (-8 : Int32) = shf (i + 1) := by
      have : i = 0 ∨ i = 1 ∨ i = 2 ∨ i = 3 := by omega
      rcases this with rfl | rfl | rfl | rfl <;> rfl
    simp only [e1, Option.bind_some, reduceIte, if_true, if_false, Bool.false_eq_true, ck_tt, v_fI k0, v_fR k0, r0, f1, show ((400 : Int32) ≤ nI (L + i)) = False from cm_leF (b := 400) (by omega) (by omega), v_tI k1 n1 (rfl : nI (L + i) = nI (L + i)) (show L + i < 400 by omega) (by omega), v_sI k0, u2_n I1 1002 (L + i) ((a.toUInt32 >>> ((shf i).toUInt32 &&& Int32.toUInt32 31)).toInt32 &&& (255 : Int32)) (show ¬ (1001 = 1002 ∧ 1 = L + i) by omega), e2]
    refine E1.ok ⟨_, rfl, by rw [u2_s]; exact nI_add (L + i) 1, fun c j c1 c2 => by rw [u2_n _ _ _ _ c1, u2_n _ _ _ _ (by omega)]; exact f2 c j c1 c2, fun j hj => ?_⟩
    rw [u2_n _ _ _ _ (by omega)]
    by_cases e : j = i
    · subst e; rw [u2_s]; rfl
    · rw [u2_n _ _ _ _ (by omega)]; exact f3 j (by omega)
  · rintro s ⟨I1, rfl, f1, f2, f3⟩
    simp only [show (shf 4 < 0) = True from eq_true (by decide), Option.bind_some, reduceIte, if_true, if_false, Bool.false_eq_true, ck_tt]
    exact E1.ok ⟨I1, rfl, f1, f2, f3⟩
def fvV (a b c d e : Int32) (i : Nat) : Int32 := if i = 0 then a else if i = 1 then b else if i = 2 then c else if i = 3 then d else e
theorem mo_t5 {i v : Int32} (h : MN K) (e : i = nI n) (hn : n < 5) : tI (J, K) 1534 i v = some (u2 J 1534 n v, K) := v_tI h.2.2.2.2.2.2.1.1 h.2.2.2.2.2.2.1.2 e hn (by omega)
theorem mo_a5 {i : Int32} (h : MN K) (e : i = nI n) (hn : n < 5) : aI (J, K) 1534 i = some (J 1534 n) := v_aI h.2.2.2.2.2.2.1.1 h.2.2.2.2.2.2.1.2 e hn (by omega)
theorem mo_tb {i v : Int32} (h : MN K) (e : i = nI n) (hn : n < 400) : tB (J, K) 1533 i v = some (u2 J 1533 n v.toInt8.toInt32, K) := v_tB h.2.2.2.2.2.1.1 h.2.2.2.2.2.1.2 e hn (by omega)
theorem mo_ab {i : Int32} (h : MN K) (e : i = nI n) (hn : n < 400) : aB (J, K) 1533 i = some (J 1533 n) := v_aB h.2.2.2.2.2.1.1 h.2.2.2.2.2.1.2 e hn (by omega)
theorem ix_20 : ∀ i, i < 20 → nI i / (4 : Int32) = nI (i / 4) ∧ (24 : Int32) - ((8 : Int32) * (nI i - nI i / (4 : Int32) * (4 : Int32))) = shf (i % 4) := by decide +kernel
theorem m_feed (hm : MN K) (a b c d e : Int32) (hL : L + 20 ≤ 400) (eL : J 1528 8 = nI L) : E1 (F_Mo_feed 1528 a b c d e (J, K)) (fun u => ∃ J', u = (nI (L + 20), (J', K)) ∧ J' 1528 0 = 0 ∧ J' 1528 8 = nI (L + 20) ∧ (∀ c j, c ≠ 1534 → ¬ (c = 1528 ∧ (j = 0 ∨ j = 8)) → ¬ (c = 1533 ∧ L ≤ j) → J' c j = J c j) ∧ ∀ i, i < 20 → J' 1533 (L + i) = mbV (fvV a b c d e (i / 4)) (i % 4)) := by
  have e8 : u2 J 1528 0 0 1528 8 = nI L := by rw [u2_n _ _ _ _ (by omega)]; exact eL
  unfold F_Mo_feed
  simp only [mo_s hm, mo_f hm, Option.bind_some, reduceIte, if_true, if_false, Bool.false_eq_true, ck_tt, e8, show nI L + (20 : Int32) = nI (L + 20) from nI_add L 20, show (nI (L + 20) ≤ (400 : Int32)) = True from cm_leT (a := 400) hL (by omega), mo_r14 hm, mo_t5 hm (show (0 : Int32) = nI 0 from rfl) (by omega), mo_t5 hm (show (1 : Int32) = nI 1 from rfl) (by omega), mo_t5 hm (show (2 : Int32) = nI 2 from rfl) (by omega), mo_t5 hm (show (3 : Int32) = nI 3 from rfl) (by omega), mo_t5 hm (show (4 : Int32) = nI 4 from rfl) (by omega)]
  refine E1.bind (P := fun M => ∃ J', M = (J', K) ∧ J' 1528 0 = 0 ∧ J' 1528 8 = nI L ∧ (∀ c j, c ≠ 1534 → ¬ (c = 1528 ∧ (j = 0 ∨ j = 8)) → ¬ (c = 1533 ∧ L ≤ j) → J' c j = J c j) ∧ ∀ i, i < 20 → J' 1533 (L + i) = mbV (fvV a b c d e (i / 4)) (i % 4)) ?_ ?_
  · refine lq1 (fun i s => ∃ J', s = (nI i, (J', K)) ∧ J' 1528 0 = 0 ∧ J' 1528 8 = nI L ∧ (∀ k, k < 5 → J' 1534 k = fvV a b c d e k) ∧ (∀ c j, c ≠ 1534 → ¬ (c = 1528 ∧ (j = 0 ∨ j = 8)) → ¬ (c = 1533 ∧ L ≤ j) → J' c j = J c j) ∧ ∀ x, x < i → J' 1533 (L + x) = mbV (fvV a b c d e (x / 4)) (x % 4)) _ 20 (lim_lt (by omega)) (Nat.zero_le _) ?_ ?_ ?_
    · refine ⟨_, rfl, ?_, ?_, fun k hk => ?_, fun c j c1 c2 c3 => ?_, fun x hx => absurd hx (Nat.not_lt_zero _)⟩
      · rw [u2_n _ _ _ _ (by omega), u2_n _ _ _ _ (by omega), u2_n _ _ _ _ (by omega), u2_n _ _ _ _ (by omega), u2_n _ _ _ _ (by omega), u2_s]
      · rw [u2_n _ _ _ _ (by omega), u2_n _ _ _ _ (by omega), u2_n _ _ _ _ (by omega), u2_n _ _ _ _ (by omega), u2_n _ _ _ _ (by omega)]; exact e8
      · have : k = 0 ∨ k = 1 ∨ k = 2 ∨ k = 3 ∨ k = 4 := by omega
        rcases this with rfl | rfl | rfl | rfl | rfl
        · rw [u2_n _ _ _ _ (by omega), u2_n _ _ _ _ (by omega), u2_n _ _ _ _ (by omega), u2_n _ _ _ _ (by omega), u2_s]; rfl
        · rw [u2_n _ _ _ _ (by omega), u2_n _ _ _ _ (by omega), u2_n _ _ _ _ (by omega), u2_s]; rfl
        · rw [u2_n _ _ _ _ (by omega), u2_n _ _ _ _ (by omega), u2_s]; rfl
        · rw [u2_n _ _ _ _ (by omega), u2_s]; rfl
        · rw [u2_s]; rfl
      · rw [u2_n _ _ _ _ (by omega), u2_n _ _ _ _ (by omega), u2_n _ _ _ _ (by omega), u2_n _ _ _ _ (by omega), u2_n _ _ _ _ (by omega), u2_n _ _ _ _ (by omega)]
    · rintro i s hi ⟨J1, rfl, f0, f1, f2, f3, f4⟩
      obtain ⟨i1, i2⟩ := ix_20 i hi
      rw [i1] at i2
      simp only [show ((20 : Int32) ≤ nI i) = False from cm_leF (b := 20) hi (by omega), Option.bind_some, reduceIte, if_true, if_false, Bool.false_eq_true, ck_tt, mo_r7 hm, mo_f hm, mo_r14 hm, i1, i2, mo_a5 hm (rfl : nI (i / 4) = nI (i / 4)) (show i / 4 < 5 by omega), f1, nI_add, mo_tb hm (rfl : nI (L + i) = nI (L + i)) (show L + i < 400 by omega), f2 (i / 4) (by omega)]
      refine E1.ok ⟨_, Prod.ext (nI_1 i) rfl, ?_, ?_, fun k hk => ?_, fun c j c1 c2 c3 => ?_, fun x hx => ?_⟩
      · rw [u2_n _ _ _ _ (by omega)]; exact f0
      · rw [u2_n _ _ _ _ (by omega)]; exact f1
      · rw [u2_n _ _ _ _ (by omega)]; exact f2 k hk
      · rw [u2_n _ _ _ _ (by omega)]; exact f3 c j c1 c2 c3
      · by_cases e : x = i
        · subst e; rw [u2_s]; exact re_8 _
        · rw [u2_n _ _ _ _ (by omega)]; exact f4 x (by omega)
    · rintro s ⟨J1, rfl, f0, f1, f2, f3, f4⟩
      simp only [show ((20 : Int32) ≤ nI 20) = True from cm_leT (Nat.le_refl 20) (by omega), Option.bind_some, reduceIte, if_true, if_false, Bool.false_eq_true, ck_tt]
      exact E1.ok ⟨J1, rfl, f0, f1, f3, f4⟩
  · rintro _ ⟨J1, rfl, f0, f1, f3, f4⟩
    simp only [mo_f hm, mo_s hm, f1, Option.bind_some, reduceIte, if_true, if_false, Bool.false_eq_true, ck_tt, u2_s]
    exact E1.ok ⟨_, Prod.ext (nI_add L 20) rfl, by rw [u2_n _ _ _ _ (by omega)]; exact f0, by rw [u2_s]; exact nI_add L 20, fun c j c1 c2 c3 => by rw [u2_n _ _ _ _ (by omega)]; exact f3 c j c1 c2 c3, fun i hi => by rw [u2_n _ _ _ _ (by omega)]; exact f4 i hi⟩
end TAPE
