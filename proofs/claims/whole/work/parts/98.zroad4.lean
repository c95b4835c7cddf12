/-! a list of gates, a gate, small lines -/
theorem nn_bt {x : Int32} (h : bt x 31 = false) : 0 ≤ x := by
  rw [bt_is (by omega)] at h
  have hm : x.toBitVec.msb = false := by rw [BitVec.msb_eq_getLsbD_last]; exact h
  rw [Int32.le_iff_toInt_le]
  have := BitVec.msb_eq_toInt (x := x.toBitVec)
  rw [hm] at this
  have h2 := of_decide_eq_false this.symm
  show (0 : Int) ≤ x.toBitVec.toInt
  omega
theorem le_pred {v g : Nat} (hv : v < 10 ^ 4) (hg : g < 2 ^ 30) (h : nI v ≤ nI g - 1) : v < g := by
  refine Nat.not_le.mp fun z => ?_
  have h1 : nI g ≤ nI v := nI_le z (by omega)
  rw [← pred_lt hg] at h1
  exact absurd h (Int32.not_le.mpr h1)
/-- no bit from g on -/
def inG (x : Int32) (g : Nat) : Prop := ∀ j, g ≤ j → j < 32 → bt x j = false
section SOME
variable {k k0 k1 n L q s e r t i c x d g w p : Nat} {b st E : Nat → Nat} {I I' : IM} {N N' K : NM} {J J' : IM} {W W' : Nat → Int32} {v : Int32}
theorem inG.nn {x : Int32} (h : inG x g) (hg : g ≤ 12) : 0 ≤ x := nn_bt (h 31 (by omega) (by omega))
theorem inG.add {x : Int32} (h : inG x g) (hv : q < g) (hg : g ≤ 12) : inG (x ||| ((1 : Int32) <<< (nI q &&& 31))) g := fun j h1 h2 => by
  rw [bt_or h2, h j h1 h2, bt_shl (by omega) h2, decide_eq_false (by omega)]
  rfl
def SGr (N : NM) (I : IM) (K : NM) (J : IM) (W : Nat → Int32) (st E : Nat → Nat) (n k1 g : Nat) (u v : Int32 × Mem) : Prop :=
  ∃ x k p r, u = (x, (at6 I k, N)) ∧ v = (x, (rowI (pt J p r) 1529 W, K)) ∧ k1 ≤ k ∧ k ≤ n ∧ ((x = -1 ∧ r = st k) ∨ (k1 < k ∧ AT st E n k p ∧ inG x g))
theorem r_some (h : BT N I J b L n st E k0) (hs : Shp N) (hm : MN K) (ha : AT st E n k1 p) (h1 : 1 ≤ k1) (eg : I 1040 0 = nI g) (ew : W 0 = nI g) (hg : g ≤ 12) :
    E2 (F_RoadReader_readSomeGates 1073 (at6 I k1, N)) (F_Mo_readGates 1528 (rowI (pt J p r) 1529 W, K)) (SGr N I K J W st E n k1 g) := by
  have hn := h.1.n_le
  obtain ⟨q0, r0, r1⟩ := hs.2.2.2.2.1
  have kt : kS N 1003 = 16 := hs.2.2.1.1
  have hk1 := ha.1
  unfold F_RoadReader_readSomeGates F_Mo_readGates
  refine lq2 (fun i s t => ∃ x k p r, s = (x, nI i, (at6 I k, N)) ∧ t = (x, (rowI (pt J p r) 1529 W, K)) ∧ k = k1 + i ∧ AT st E n k p ∧ inG x g) _ (n - k1) (lim_lt (by omega)) (Nat.zero_le _) ⟨0, k1, p, r, rfl, rfl, rfl, ha, fun j _ h2 => bt_zero h2⟩ ?_ ?_
  · rintro i s t hi ⟨x, k, p, r, rfl, rfl, ek, hA, hx⟩
    simp only [cm_leF (b := 400) (show i < 400 by omega) (by omega), show ((400 : Int32) ≤ nI i) = False from cm_leF (b := 400) (show i < 400 by omega) (by omega), Option.bind_some, reduceIte, if_true, if_false, Bool.false_eq_true, ck_tt, v_qS, mo_k hm, mw_f hm, mo_r1 hm, mw_gates hm, mw_walkers hm, ew, q0, a_gate h hs hA.1 eg, b_num h hm hA]
    by_cases hv : 0 ≤ nuV b st E n k 3 (nI g - 1)
    · have hk := (nuV_lt hv).1
      obtain ⟨v, v1, v2, v3⟩ := nuV_val (h.mid hA 0).1 (show 3 ≤ 4 by omega) hv
      have hvg := le_pred v1 (by omega) v3
      have hrng := (h.1.at (q := k + 1) (by omega)).rng
      have hA' := h.atF hv
      simp only [hv, Option.bind_some, reduceIte, if_true, if_false, Bool.false_eq_true, ck_tt, v_fR q0, r0, v_qS, kt, a_tok h hs (show k + 1 ≤ n by omega), ck_tt (show kR N 1004 (k + 1) ≤ 36 ∧ 1 ≤ 36 from ⟨hrng.2, by omega⟩), mo_k hm, b_blk h hm hA', b_dig h hm (show k + 1 ≤ n by omega)]
      by_cases c : kR N 1004 (k + 1) = 1
      · simp only [c, Option.bind_some, reduceIte, if_true, if_false, Bool.false_eq_true, ck_tt, i32_10, show nI i + (1 : Int32) = nI (i + 1) from nI_add i 1]
        refine E2.ok ⟨_, k + 1, _, _, rfl, rfl, by omega, h.atS (by omega), ?_⟩
        rw [v2]
        exact hx.add hvg hg
      · simp only [c, Option.bind_some, reduceIte, if_true, if_false, Bool.false_eq_true, ck_tt]
        refine E2.ok ⟨_, k + 1, _, _, rfl, rfl, by omega, by omega, Or.inr ⟨by omega, h.atS (by omega), ?_⟩⟩
        rw [v2]
        exact hx.add hvg hg
    · simp only [hv, Option.bind_some, reduceIte, if_true, if_false, Bool.false_eq_true, ck_tt]
      exact E2.ok ⟨_, k, _, _, rfl, rfl, by omega, by omega, Or.inl ⟨rfl, rfl⟩⟩
  · rintro s t ⟨x, k, p, r, rfl, rfl, ek, hA, hx⟩
    have hv : ¬ 0 ≤ nuV b st E n k 3 (nI g - 1) := fun z => by have := (nuV_lt z).1; omega
    simp only [show ((400 : Int32) ≤ nI (n - k1)) = False from cm_leF (b := 400) (show n - k1 < 400 by omega) (by omega), Option.bind_some, reduceIte, if_true, if_false, Bool.false_eq_true, ck_tt, v_qS, mo_k hm, mw_f hm, mo_r1 hm, mw_gates hm, mw_walkers hm, ew, q0, a_gate h hs hA.1 eg, b_num h hm hA, hv]
    exact E2.ok ⟨_, k, _, _, rfl, rfl, by omega, by omega, Or.inl ⟨rfl, rfl⟩⟩
end SOME
/-! a token's number of a switch -/
def swJ : List (Nat × Nat) := [(1, 10), (2, 16), (3, 18), (4, 19), (5, 20), (6, 21), (7, 22), (8, 11), (9, 12), (10, 13), (11, 14), (12, 15), (13, 30), (14, 31), (15, 32), (16, 33), (17, 34), (18, 35), (19, 23), (20, 24), (21, 0), (22, 3), (23, 28), (24, 7), (25, 8), (26, 9), (27, 27), (28, 26), (29, 29)]
theorem swJ_ok : swJ.all (fun q => alB (fun r => decide (swL.getD r 0 = nI q.1) == decide (r = q.2)) 36) = true := by decide +kernel
theorem sw_is {c i r : Nat} (h : (c, i) ∈ swJ) (h1 : 1 ≤ r) (h2 : r ≤ 36) : (swL.getD (r - 1) 0 = nI c) = (r = i + 1) := by
  have := eq_of_beq (alB_iff.mp (List.all_eq_true.mp swJ_ok (c, i) h) (r - 1) (by omega))
  have e := decide_eq_decide.mp this
  exact propext (e.trans ⟨fun z => by have : r - 1 = i := z; omega, fun z => by show r - 1 = i; omega⟩)
theorem t_ord {r : Nat} (h1 : 1 ≤ r) (h2 : r ≤ 36) : tOrd r = some (nI (r - 1)) := if_pos ⟨h1, h2⟩
theorem t_sw {r : Nat} (h1 : 1 ≤ r) (h2 : r ≤ 36) : swI (nI (r - 1)) = some (swL.getD (r - 1) 0) := by
  unfold swI
  have e : (nI (r - 1)).toNatClampNeg = r - 1 := nI_clamp (by omega)
  rw [e, if_pos ⟨nI_pos' (by omega), by omega⟩]
def kindV (r : Nat) : Nat := if r = 12 then 1 else if r = 13 then 2 else if r = 14 then 3 else if r = 15 then 4 else if r = 16 then 5 else 0
theorem c_kind {r : Nat} (h1 : 1 ≤ r) (h2 : r ≤ 36) (M : Mem) : F_RoadReader_kindOf r M = some (nI (kindV r)) := by
  unfold F_RoadReader_kindOf kindV
  simp only [t_ord h1 h2, t_sw h1 h2, Option.bind_some, show (8 : Int32) = nI 8 from rfl, show (9 : Int32) = nI 9 from rfl, show (10 : Int32) = nI 10 from rfl, show (11 : Int32) = nI 11 from rfl, show (12 : Int32) = nI 12 from rfl, sw_is (show (8, 11) ∈ swJ by decide) h1 h2, sw_is (show (9, 12) ∈ swJ by decide) h1 h2, sw_is (show (10, 13) ∈ swJ by decide) h1 h2, sw_is (show (11, 14) ∈ swJ by decide) h1 h2, sw_is (show (12, 15) ∈ swJ by decide) h1 h2]
  by_cases a : r = 12
  · rw [if_pos a, if_pos a]; rfl
  rw [if_neg a, if_neg a]
  by_cases a : r = 13
  · rw [if_pos a, if_pos a]; rfl
  rw [if_neg a, if_neg a]
  by_cases a : r = 14
  · rw [if_pos a, if_pos a]; rfl
  rw [if_neg a, if_neg a]
  by_cases a : r = 15
  · rw [if_pos a, if_pos a]; rfl
  rw [if_neg a, if_neg a]
  by_cases a : r = 16
  · rw [if_pos a, if_pos a]; rfl
  rw [if_neg a, if_neg a]; rfl
