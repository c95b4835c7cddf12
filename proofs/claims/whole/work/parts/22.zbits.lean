/-! bits of an int -/
theorem bt_amt : ∀ k, k < 32 → ((nI k &&& 31).toBitVec.smod 32).toNat = k := by decide +kernel
theorem bv_one (y : BitVec 32) : (y &&& 1#32) = 1#32 ↔ y.getLsbD 0 = true := by
  constructor
  · intro h
    have := congrArg (fun z : BitVec 32 => z.getLsbD 0) h
    simpa using this
  · intro h
    refine BitVec.eq_of_getLsbD_eq fun i hi => ?_
    rw [BitVec.getLsbD_and, BitVec.getLsbD_one]
    by_cases e : i = 0
    · subst e; simp [h]
    · simp [e]
theorem bt_is {x : Int32} {k : Nat} (hk : k < 32) : bt x k = x.toBitVec.getLsbD k := by
  have h1 : (((x >>> (nI k &&& 31)) &&& (1 : Int32)) = (1 : Int32)) ↔ x.toBitVec.getLsbD k = true := by
    rw [← Int32.toBitVec_inj, Int32.toBitVec_and, Int32.toBitVec_shiftRight, Int32.toBitVec_one, bv_one, BitVec.sshiftRight', bt_amt k hk, BitVec.getLsbD_sshiftRight]
    simp [hk]
  unfold bt
  cases e : x.toBitVec.getLsbD k with
  | true => exact decide_eq_true (h1.mpr e)
  | false => exact decide_eq_false (fun z => by rw [h1.mp z] at e; cases e)
theorem bt_iff (x : Int32) (k : Nat) : (((x >>> (nI k &&& 31)) &&& (1 : Int32)) = (1 : Int32)) = (bt x k = true) := by
  unfold bt
  simp
theorem bt_or {x y : Int32} {k : Nat} (hk : k < 32) : bt (x ||| y) k = (bt x k || bt y k) := by
  rw [bt_is hk, bt_is hk, bt_is hk, Int32.toBitVec_or, BitVec.getLsbD_or]
theorem bt_and {x y : Int32} {k : Nat} (hk : k < 32) : bt (x &&& y) k = (bt x k && bt y k) := by
  rw [bt_is hk, bt_is hk, bt_is hk, Int32.toBitVec_and, BitVec.getLsbD_and]
theorem bt_not {x : Int32} {k : Nat} (hk : k < 32) : bt (x ^^^ (-1 : Int32)) k = !bt x k := by
  rw [bt_is hk, bt_is hk, Int32.toBitVec_xor, BitVec.getLsbD_xor, show (-1 : Int32).toBitVec = BitVec.allOnes 32 from rfl, BitVec.getLsbD_allOnes]
  simp [hk]
theorem bt_zero {k : Nat} (hk : k < 32) : bt 0 k = false := by
  rw [bt_is hk]
  simp
theorem bt_shl {g k : Nat} (hg : g < 32) (hk : k < 32) : bt ((1 : Int32) <<< (nI g &&& 31)) k = decide (k = g) := by
  rw [bt_is hk, Int32.toBitVec_shiftLeft, BitVec.shiftLeft_eq', bt_amt g hg, BitVec.getLsbD_shiftLeft, Int32.toBitVec_one, BitVec.getLsbD_one]
  by_cases e : k = g
  · subst e; simp [hk]
  · simp [e, hk]; omega
theorem bt_ext {x y : Int32} (h : ∀ k, k < 32 → bt x k = bt y k) : x = y := by
  refine Int32.toBitVec_inj.mp (BitVec.eq_of_getLsbD_eq fun i hi => ?_)
  rw [← bt_is hi, ← bt_is hi]
  exact h i hi
theorem bt_bit (x : Int32) {k : Nat} (hk : k < 32) : (x >>> (nI k &&& 31)) &&& (1 : Int32) = if bt x k then 1 else 0 := by
  refine bt_ext fun j hj => ?_
  rw [bt_and hj, bt_is (x := x >>> (nI k &&& 31)) hj, Int32.toBitVec_shiftRight, BitVec.sshiftRight', bt_amt k hk, BitVec.getLsbD_sshiftRight, bt_is (x := 1) hj, Int32.toBitVec_one, BitVec.getLsbD_one]
  by_cases e : j = 0
  · subst e
    by_cases hb : bt x k = true
    · rw [if_pos hb]
      rw [bt_is hk] at hb
      simp [hk, hb, bt_is (x := 1) (k := 0) (by omega)]
    · rw [if_neg hb, bt_zero hj]
      rw [bt_is hk, Bool.not_eq_true] at hb
      rw [BitVec.getLsbD_eq_getElem hk] at hb
      simp [hk, hb]
  · by_cases hb : bt x k = true
    · rw [if_pos hb, bt_is hj, Int32.toBitVec_one, BitVec.getLsbD_one]; simp [e]
    · rw [if_neg hb, bt_zero hj]; simp [e]
/-- a part of another set -/
theorem bt_sub {x y : Int32} : (x &&& (y ^^^ (-1 : Int32))) = 0 ↔ ∀ k, k < 32 → bt x k = true → bt y k = true := by
  constructor
  · intro h k hk hx
    have := congrArg (fun z => bt z k) h
    simp only [bt_and hk, bt_not hk, bt_zero hk, hx, Bool.true_and] at this
    simpa using this
  · intro h
    refine bt_ext fun k hk => ?_
    rw [bt_and hk, bt_not hk, bt_zero hk]
    cases hx : bt x k with
    | false => rfl
    | true => rw [h k hk hx]; rfl
theorem mo_has {J : IM} {K : NM} {x y : Int32} {k : Nat} (hy : y = nI k) : F_Mo_has x y (J, K) = some (if bt x k then 1 else 0) := by
  subst hy
  unfold F_Mo_has
  simp only [bt_iff]
  cases bt x k <;> rfl
theorem i32_10 : ((1 : Int32) = 0) = False := eq_false (by decide)
theorem i32_00 : ((0 : Int32) = 0) = True := eq_true rfl
theorem i32_11 : ((1 : Int32) = 1) = True := eq_true rfl
theorem i32_01 : ((0 : Int32) = 1) = False := eq_false (by decide)
theorem ib0 (b : Bool) : ((if b = true then (1 : Int32) else 0) = 0) = (b = false) := by cases b <;> simp
