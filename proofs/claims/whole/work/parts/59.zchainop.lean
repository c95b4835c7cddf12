/-! chains and lies told by the tape -/
def bxV (I : IM) (k : Nat) : Nat := (I 1002 k).toBitVec.toNat
def leB (I : IM) (k : Nat) : Bool := decide (97 ≤ bxV I k ∧ bxV I k ≤ 122)
def syB (I : IM) (k : Nat) : Bool := decide (bxV I k = 84 ∨ bxV I k = 70 ∨ bxV I k = 63)
def orI (f : Nat → Int32) : Nat → Int32
  | 0 => 0
  | n + 1 => orI f n ||| f n
theorem or_loop {B : Type} {f : Int32 × Int32 → Option ((Int32 × Int32) ⊕ B)} {F : Nat → Int32} {n : Nat} {r : Int32 → B} (hn : n < 2 ^ 16) (h1 : ∀ i x, i < n → f (x, nI i) = some (.inl (x ||| F i, nI i + 1))) (h2 : ∀ x, f (x, nI n) = some (.inr (r x))) : loopN LIM f (0, 0) = some (r (orI F n)) := by
  refine E1.eq (lq1 (fun i s => s = (orI F i, nI i)) _ n (lim_lt (by omega)) (Nat.zero_le _) rfl ?_ ?_)
  · rintro i s hi rfl
    rw [h1 i _ hi]
    exact E1.ok (Prod.ext rfl (nI_1 i))
  · rintro s rfl
    rw [h2]
    exact E1.ok rfl
theorem orI_cong {f f' : Nat → Int32} : ∀ {n : Nat}, (∀ i, i < n → f i = f' i) → orI f n = orI f' n
  | 0, _ => rfl
  | n + 1, h => by
    show orI f n ||| f n = orI f' n ||| f' n
    rw [orI_cong (fun i hi => h i (by omega)), h n (by omega)]
section CHOP
variable {a b c d s g w k v q p n L o hh n' L' t r : Nat} {I I' I2 : IM} {W W' : Nat → Int32} {N N' N2 K : NM} {J J' J2 : IM} {M M' : Mem} {P : List lnT} {tr : Nat → Int32} {x y z : Int32}
theorem TPr.at (h : TPr I J L) (hk : k < L) : bxV I k < 256 ∧ I 1002 k = nI (bxV I k) ∧ J 1533 k = (nI (bxV I k)).toInt8.toInt32 := by
  obtain ⟨x, h1, h2, h3⟩ := h.2.2.2 k hk
  have e : bxV I k = x := by
    unfold bxV
    rw [h2]
    show (BitVec.ofNat 32 x).toNat = x
    rw [BitVec.toNat_ofNat]; exact Nat.mod_eq_of_lt (by omega)
  rw [e]
  exact ⟨h1, h2, h3⟩
theorem Ex.exc1 (h : INVp N I K (rowI J 1529 W) g w p P n L o hh) {c : Nat} {x y : Int32} (hc : tr c = y) (hy : y ≠ 0) : Ex tr N I K (rowI J 1529 W) (.inr (c, pNew (I, N) 30 0)) (x, (rowI (u2 J 1528 0 y) 1529 W, K)) := by
  obtain ⟨h2, f2⟩ := h.thrw y
  obtain ⟨I', N', e, h3, f3⟩ := h2.exc
  refine ⟨I', N', _, rfl, ⟨_, _, _, _, _, _, _, _, h3⟩, f3, f2, Or.inr ⟨c, by rw [e], ?_, by rw [hc]; exact hy⟩⟩
  rw [rw_n _ _ (by omega), u2_s, hc]
theorem c_onlyL (hs : Shp N) (h : TPr I J L) (e : ∀ k, I' 1002 k = I 1002 k) : F_Tape_hasOnlyLetters 1001 (nI L) (I', N) = some (if alB (leB I) L = true then 1 else 0) := by
  obtain ⟨k0, r0, k1, n1⟩ := hs.2.1
  have hL := h.2.2.1
  unfold F_Tape_hasOnlyLetters
  have step : ∀ i, i < L → aI (I', N) 1002 (nI i) = some (nI (bxV I i)) := fun i hi => by rw [v_aI k1 n1 rfl (show i < 400 by omega) (by omega), e, (h.at hi).2.1]
  refine al_loop (F := leB I) (n := L) (by omega) (fun i hi hF => ?_) (fun i hi hF => ?_) ?_
  · have hF : 97 ≤ bxV I i ∧ bxV I i ≤ 122 := of_decide_eq_true hF
    simp only [cm_leF hi (show L < 2 ^ 31 by omega), show ((400 : Int32) ≤ nI i) = False from cm_leF (b := 400) (by omega) (by omega), Option.bind_some, reduceIte, if_true, if_false, Bool.false_eq_true, ck_tt, v_fR k0, r0, step i hi, c_isLet (h.at hi).1, if_pos hF, i32_10]
  · have hF : ¬ (97 ≤ bxV I i ∧ bxV I i ≤ 122) := of_decide_eq_false hF
    simp only [cm_leF hi (show L < 2 ^ 31 by omega), show ((400 : Int32) ≤ nI i) = False from cm_leF (b := 400) (by omega) (by omega), Option.bind_some, reduceIte, if_true, if_false, Bool.false_eq_true, ck_tt, v_fR k0, r0, step i hi, c_isLet (h.at hi).1, if_neg hF]
  · simp only [cm_leT (Nat.le_refl L) (show L < 2 ^ 31 by omega), Option.bind_some, reduceIte, if_true, if_false, Bool.false_eq_true, ck_tt]
theorem c_onlyS (hs : Shp N) (h : TPr I J L) (e : ∀ k, I' 1002 k = I 1002 k) : F_Tape_hasOnlySayings 1001 (nI L) (I', N) = some (if alB (syB I) L = true then 1 else 0) := by
  obtain ⟨k0, r0, k1, n1⟩ := hs.2.1
  have hL := h.2.2.1
  unfold F_Tape_hasOnlySayings
  have step : ∀ i, i < L → aI (I', N) 1002 (nI i) = some (nI (bxV I i)) := fun i hi => by rw [v_aI k1 n1 rfl (show i < 400 by omega) (by omega), e, (h.at hi).2.1]
  refine al_loop (F := syB I) (n := L) (by omega) (fun i hi hF => ?_) (fun i hi hF => ?_) ?_
  · have hF := (by_let _ (h.at hi).1).2.2.2.2.mpr (of_decide_eq_true hF)
    simp only [cm_leF hi (show L < 2 ^ 31 by omega), show ((400 : Int32) ≤ nI i) = False from cm_leF (b := 400) (by omega) (by omega), Option.bind_some, reduceIte, if_true, if_false, Bool.false_eq_true, ck_tt, v_fR k0, r0, step i hi]
    rcases hF with hF | hF | hF
    · simp only [hF, Option.bind_some, reduceIte, if_true, if_false, Bool.false_eq_true, ck_tt]
    · simp only [hF, Option.bind_some, reduceIte, if_true, if_false, Bool.false_eq_true, ck_tt]
      rw [if_neg (by decide)]
      simp only [Option.bind_some, reduceIte, if_true, if_false, Bool.false_eq_true, ck_tt]
    · simp only [hF, Option.bind_some, reduceIte, if_true, if_false, Bool.false_eq_true, ck_tt]
      rw [if_neg (by decide), if_neg (by decide)]
      simp only [Option.bind_some, reduceIte, if_true, if_false, Bool.false_eq_true, ck_tt]
  · have hF := fun z => of_decide_eq_false hF ((by_let _ (h.at hi).1).2.2.2.2.mp z)
    simp only [cm_leF hi (show L < 2 ^ 31 by omega), show ((400 : Int32) ≤ nI i) = False from cm_leF (b := 400) (by omega) (by omega), Option.bind_some, reduceIte, if_true, if_false, Bool.false_eq_true, ck_tt, v_fR k0, r0, step i hi, eq_false (fun z => hF (Or.inl z)), eq_false (fun z => hF (Or.inr (Or.inl z))), eq_false (fun z => hF (Or.inr (Or.inr z)))]
  · simp only [cm_leT (Nat.le_refl L) (show L < 2 ^ 31 by omega), Option.bind_some, reduceIte, if_true, if_false, Bool.false_eq_true, ck_tt]
theorem c_chadd (hs : Shp N) (hn : n < 6) (hL : L ≤ 12) (e3 : I 1475 3 = nI n) : E1 (F_Chains_add 1475 1002 (nI L) (I, N)) (fun u => ∃ I', u = (nI n, (I', N)) ∧ (∀ k, k < L → I' (1477 + n) k = I 1002 k) ∧ I' 1483 n = nI L ∧ I' 1475 3 = nI (n + 1) ∧ ∀ c j, c ≠ 1477 + n → ¬ (c = 1483 ∧ j = n) → ¬ (c = 1475 ∧ j = 3) → I' c j = I c j) := by
  obtain ⟨k0, r0, k1, n1⟩ := hs.2.1
  obtain ⟨⟨a0, a1, a2, a3⟩, ⟨b1, b2⟩, ⟨b3, b4⟩, ⟨b5, b6⟩, b7⟩ := hs.cn
  obtain ⟨x1, x2, x3⟩ := b7 n hn
  have x2 : kS N (1477 + n) = 1 := x2
  have x3 : kN N (1477 + n) = 12 := x3
  have x1 : kR N 1476 n = 1477 + n := x1
  unfold F_Chains_add
  simp only [v_fI a0, e3, show (nI n < (6 : Int32)) = True from cm_ltT (b := 6) hn (by omega), Option.bind_some, reduceIte, if_true, if_false, Bool.false_eq_true, ck_tt]
  refine E1.bind (P := fun M => ∃ I', M = (I', N) ∧ (∀ k, k < L → I' (1477 + n) k = I 1002 k) ∧ ∀ c, c ≠ 1477 + n → I' c = I c) ?_ ?_
  · refine lq1 (fun i s => ∃ I', s = (nI i, (I', N)) ∧ (∀ k, k < i → I' (1477 + n) k = I 1002 k) ∧ ∀ c, c ≠ 1477 + n → I' c = I c) _ L (lim_lt (by omega)) (Nat.zero_le _) ⟨I, rfl, fun k hk => absurd hk (Nat.not_lt_zero _), fun _ _ => rfl⟩ ?_ ?_
    · rintro i s hi ⟨I1, rfl, f1, f2⟩
      have e3' : I1 1475 3 = nI n := by rw [f2 _ (by omega)]; exact e3
      simp only [cm_leF hi (show L < 2 ^ 31 by omega), show ((12 : Int32) ≤ nI i) = False from cm_leF (b := 12) (by omega) (by omega), v_aN (show 1 ≤ kS N 1002 by omega) (show kS N 1002 ≤ 6 by omega), n1, cm_leF (show i < 400 by omega) (show 400 < 2 ^ 31 by omega), Option.bind_some, reduceIte, if_true, if_false, Bool.false_eq_true, ck_tt, v_fR a0, a1, v_fI a0, e3', v_aR b1 b2 (rfl : nI n = nI n) hn (by omega), x1, v_aI k1 n1 (rfl : nI i = nI i) (show i < 400 by omega) (by omega), v_tI x2 x3 (rfl : nI i = nI i) (show i < 12 by omega) (by omega)]
      refine E1.ok ⟨_, Prod.ext (nI_1 i) rfl, fun k hk => ?_, fun c hc => by rw [u2_o _ _ _ _ hc]; exact f2 c hc⟩
      by_cases e : k = i
      · subst e; rw [u2_s, f2 _ (by omega)]
      · rw [u2_n _ _ _ _ (by omega)]; exact f1 k (by omega)
    · rintro s ⟨I1, rfl, f1, f2⟩
      simp only [cm_leT (Nat.le_refl L) (show L < 2 ^ 31 by omega), Option.bind_some, reduceIte, if_true, if_false, Bool.false_eq_true, ck_tt]
      exact E1.ok ⟨I1, rfl, f1, f2⟩
  · rintro _ ⟨I1, rfl, f1, f2⟩
    have e3' : I1 1475 3 = nI n := by rw [f2 _ (by omega)]; exact e3
    have a2 : kR N 1475 1 = 1483 := a2
    have b3 : kS N 1483 = 1 := b3
    have b4 : kN N 1483 = 6 := b4
    simp only [v_fR a0, a2, v_fI a0, e3', v_tI b3 b4 (rfl : nI n = nI n) hn (by omega), v_sI a0, u2_n I1 1483 n (nI L) (show ¬ (1475 = 1483 ∧ 3 = n) by omega), u2_s, Option.bind_some, reduceIte, if_true, if_false, Bool.false_eq_true, ck_tt]
    refine E1.ok ⟨_, Prod.ext ?_ rfl, fun k hk => ?_, ?_, ?_, fun c j c1 c2 c3 => ?_⟩
    · show nI n + 1 - 1 = nI n
      exact Int32.add_sub_cancel _ _
    · rw [u2_n _ _ _ _ (by omega), u2_n _ _ _ _ (by omega)]; exact f1 k hk
    · rw [u2_n _ _ _ _ (by omega), u2_s]
    · rw [u2_s]; exact nI_add n 1
    · rw [u2_n _ _ _ _ c3, u2_n _ _ _ _ c2, f2 _ c1]
end CHOP
