/-! numbers as sets -/
theorem bt_nI {n k : Nat} (hk : k < 32) : bt (nI n) k = n.testBit k := by
  rw [bt_is hk]
  show (BitVec.ofNat 32 n).getLsbD k = _
  rw [BitVec.getLsbD_ofNat]
  simp [hk]
theorem nI_toBV (x : Int32) : x = nI x.toBitVec.toNat := by
  refine Int32.toBitVec_inj.mp ?_
  show _ = BitVec.ofNat 32 _
  rw [BitVec.ofNat_toNat, BitVec.setWidth_eq]
/-- a set of places below n is a number below 2 ^ n -/
theorem bt_num {x : Int32} {n : Nat} (hn : n ≤ 31) (h : ∀ k, n ≤ k → k < 32 → bt x k = false) : ∃ m, m < 2 ^ n ∧ x = nI m := by
  refine ⟨x.toBitVec.toNat, Nat.lt_pow_two_of_testBit _ fun i hi => ?_, nI_toBV x⟩
  by_cases h2 : i < 32
  · rw [← bt_nI h2, ← nI_toBV]; exact h i hi h2
  · exact Nat.testBit_lt_two_pow (Nat.lt_of_lt_of_le x.toBitVec.isLt (Nat.pow_le_pow_right (by omega) (by omega)))
theorem shl_nI : ∀ w, w < 31 → ((1 : Int32) <<< (nI w &&& 31)) = nI (2 ^ w) := by decide +kernel
theorem all_nI : ∀ w, w < 31 → ((1 : Int32) <<< (nI w &&& 31)) - 1 = nI (2 ^ w - 1) := by decide +kernel
theorem p256 {w : Nat} (h : w ≤ 8) : 2 ^ w ≤ 256 := Nat.pow_le_pow_right (n := 2) (by omega) h
theorem p4096 {w : Nat} (h : w ≤ 12) : 2 ^ w ≤ 4096 := Nat.pow_le_pow_right (n := 2) (by omega) h
/-- how many bits, of 12 -/
def pcN (n : Nat) : Nat := (n.testBit 0).toNat + (n.testBit 1).toNat + (n.testBit 2).toNat + (n.testBit 3).toNat + (n.testBit 4).toNat + (n.testBit 5).toNat + (n.testBit 6).toNat + (n.testBit 7).toNat + (n.testBit 8).toNat + (n.testBit 9).toNat + (n.testBit 10).toNat + (n.testBit 11).toNat
theorem pc_nI0 : ∀ h, h < 64 → ∀ l, l < 64 → pcI (nI (64 * h + l)) = nI (pcN (64 * h + l)) := by decide +kernel
theorem pc_nI (n : Nat) (h : n < 4096) : pcI (nI n) = nI (pcN n) := by
  have := pc_nI0 (n / 64) (by omega) (n % 64) (by omega)
  rw [Nat.div_add_mod] at this
  exact this
theorem pcN_le (n : Nat) : pcN n ≤ 12 := by
  unfold pcN
  have h : ∀ b : Bool, b.toNat ≤ 1 := fun b => by cases b <;> decide
  have := h (n.testBit 0); have := h (n.testBit 1); have := h (n.testBit 2); have := h (n.testBit 3); have := h (n.testBit 4); have := h (n.testBit 5)
  have := h (n.testBit 6); have := h (n.testBit 7); have := h (n.testBit 8); have := h (n.testBit 9); have := h (n.testBit 10); have := h (n.testBit 11)
  omega
theorem pcN_mono {m n : Nat} (h : ∀ k, m.testBit k = true → n.testBit k = true) : pcN m ≤ pcN n := by
  have e : ∀ k, (m.testBit k).toNat ≤ (n.testBit k).toNat := fun k => by
    cases hm : m.testBit k with
    | false => exact Nat.zero_le _
    | true => rw [h k hm]; exact Nat.le_refl _
  unfold pcN
  have := e 0; have := e 1; have := e 2; have := e 3; have := e 4; have := e 5; have := e 6; have := e 7; have := e 8; have := e 9; have := e 10; have := e 11
  omega
theorem pc_all : ∀ w, w < 9 → ∀ s, s < 256 → s < 2 ^ w - 1 → (pcI (nI (2 ^ w - 1)) ≤ pcI (nI s)) = False := by
  intro w hw s hs h
  have key : ∀ w, w < 9 → ∀ s, s < 256 → s < 2 ^ w - 1 → pcN s < pcN (2 ^ w - 1) := by decide +kernel
  have hp := p256 (show w ≤ 8 by omega)
  rw [pc_nI s (by omega), pc_nI _ (by omega)]
  exact cm_leF (key w hw s hs h) (nat_31 (by have := pcN_le (2 ^ w - 1); omega))
theorem nat_sub_le {m n : Nat} (h : ∀ k, m.testBit k = true → n.testBit k = true) : m ≤ n := by
  have e : n &&& m = m := Nat.eq_of_testBit_eq fun k => by
    rw [Nat.testBit_and]
    cases hm : m.testBit k with
    | false => simp
    | true => rw [h k hm]; rfl
  rw [← e]
  exact Nat.and_le_left
section PLN
variable {a g w k v q p wt : Nat} {I I' I2 : IM} {W W' : Nat → Int32} {N K : NM} {J : IM} {M M' : Mem} {P : List lnT}
/-- all that the gates of x ask for, of the first n gates -/
def needV (a : Nat) (I : IM) (g : Nat) (x : Int32) : Nat → Int32
  | 0 => 0
  | n + 1 => needV a I g x n ||| if bt x n = true then askV a I g n else 0
theorem need_sub {x y : Int32} : ∀ n, (needV a I g x n &&& (y ^^^ (-1 : Int32))) = 0 ↔ ∀ q, q < n → bt x q = true → opV a I g q y = true
  | 0 => ⟨fun _ q hq => absurd hq (Nat.not_lt_zero _), fun _ => bt_sub.mpr fun k hk hb => by rw [show needV a I g x 0 = 0 from rfl, bt_zero hk] at hb; cases hb⟩
  | n + 1 => by
    have ih := need_sub (x := x) (y := y) n
    rw [bt_sub] at ih ⊢
    constructor
    · intro h q hq hb
      by_cases e : q = n
      · subst e
        unfold opV
        refine decide_eq_true (bt_sub.mpr fun k hk hk2 => h k hk ?_)
        show bt (_ ||| _) k = true
        rw [bt_or hk, if_pos hb, hk2, Bool.or_true]
      · refine ih.mp (fun k hk hk2 => h k hk ?_) q (by omega) hb
        show bt (_ ||| _) k = true
        rw [bt_or hk, hk2, Bool.true_or]
    · intro h k hk hk2
      have hk2 : bt (_ ||| _) k = true := hk2
      rw [bt_or hk] at hk2
      rcases Bool.or_eq_true_iff.mp hk2 with h1 | h1
      · exact ih.mpr (fun q hq => h q (by omega)) k hk h1
      · by_cases hb : bt x n = true
        · rw [if_pos hb] at h1
          exact bt_sub.mp (of_decide_eq_true (h n (Nat.lt_succ_self _) hb)) k hk h1
        · rw [if_neg hb, bt_zero hk] at h1; cases h1
theorem m_opensAll (h : WR a I W g w) (hm : MN K) (x y : Int32) : F_Mo_opensAll 1528 x y (rowI J 1529 W, K) = some (if (needV a I g x g &&& (y ^^^ (-1 : Int32))) = 0 then 1 else 0) := by
  have h12 := h.g12
  unfold F_Mo_opensAll
  refine E1.eq (lq1 (fun i s => s = ((if (needV a I g x i &&& (y ^^^ (-1 : Int32))) = 0 then 1 else 0), nI i)) _ g (lim_lt (by omega)) (Nat.zero_le _) ?_ ?_ ?_)
  · rw [if_pos ((need_sub 0).mpr fun q hq => absurd hq (Nat.not_lt_zero _))]; rfl
  · rintro i s hi rfl
    simp only [Option.bind_some, reduceIte, if_true, if_false, Bool.false_eq_true, ck_tt, v_qS, mo_k hm, mw_f hm, mo_r1 hm, mw_gates hm, mw_walkers hm, h.gb, cm_leF hi (nat_31 (n := g) (by omega)), mo_has rfl, m_opens h hm hi]
    have hs := need_sub (a := a) (I := I) (g := g) (x := x) (y := y) i
    have hs1 := need_sub (a := a) (I := I) (g := g) (x := x) (y := y) (i + 1)
    by_cases e : (needV a I g x i &&& (y ^^^ (-1 : Int32))) = 0
    · cases hb : bt x i with
      | false =>
        have : (needV a I g x (i + 1) &&& (y ^^^ (-1 : Int32))) = 0 := hs1.mpr fun q hq hbq => by
          by_cases e2 : q = i
          · rw [e2, hb] at hbq; cases hbq
          · exact hs.mp e q (by omega) hbq
        simp only [if_pos e, if_pos this, Option.bind_some, reduceIte, if_true, if_false, Bool.false_eq_true, ck_tt, i32_10]
        exact E1.ok (Prod.ext rfl (nI_1 i))
      | true =>
        cases ho : opV a I g i y with
        | false =>
          have : ¬ (needV a I g x (i + 1) &&& (y ^^^ (-1 : Int32))) = 0 := fun z => by
            have := hs1.mp z i (Nat.lt_succ_self _) hb
            rw [ho] at this; cases this
          simp only [if_pos e, if_neg this, Option.bind_some, reduceIte, if_true, if_false, Bool.false_eq_true, ck_tt, i32_10, i32_00]
          exact E1.ok (Prod.ext rfl (nI_1 i))
        | true =>
          have : (needV a I g x (i + 1) &&& (y ^^^ (-1 : Int32))) = 0 := hs1.mpr fun q hq hbq => by
            by_cases e2 : q = i
            · rw [e2]; exact ho
            · exact hs.mp e q (by omega) hbq
          simp only [if_pos e, if_pos this, Option.bind_some, reduceIte, if_true, if_false, Bool.false_eq_true, ck_tt, i32_10]
          exact E1.ok (Prod.ext rfl (nI_1 i))
    · have : ¬ (needV a I g x (i + 1) &&& (y ^^^ (-1 : Int32))) = 0 := fun z => e (hs.mpr fun q hq => hs1.mp z q (by omega))
      simp only [if_neg e, if_neg this, Option.bind_some, reduceIte, if_true, if_false, Bool.false_eq_true, ck_tt, i32_00]
      exact E1.ok (Prod.ext rfl (nI_1 i))
  · rintro s rfl
    simp only [Option.bind_some, reduceIte, if_true, if_false, Bool.false_eq_true, ck_tt, v_qS, mo_k hm, mw_f hm, mo_r1 hm, mw_gates hm, mw_walkers hm, h.gb, cm_leT (Nat.le_refl g) (nat_31 (n := g) (by omega))]
    by_cases e : (needV a I g x g &&& (y ^^^ (-1 : Int32))) = 0
    · simp (decide := true) only [if_pos e, Option.bind_some, reduceIte, if_true, if_false, Bool.false_eq_true, ck_tt]
      exact E1.ok rfl
    · simp (decide := true) only [if_neg e, Option.bind_some, reduceIte, if_true, if_false, Bool.false_eq_true, ck_tt]
      exact E1.ok rfl
theorem mw_s (h : MN K) (k : Nat) (x : Int32) : sI (rowI J 1529 W, K) 1528 19 k x = some (rowI (u2 J 1528 k x) 1529 W, K) := by rw [mo_s h, u2_rowc (by omega)]
theorem m_allW (h : WR a I W g w) (hm : MN K) : F_Mo_allWalkers 1528 (rowI J 1529 W, K) = some (nI (2 ^ w - 1)) := by
  have h8 := h.w8
  unfold F_Mo_allWalkers
  simp only [Option.bind_some, reduceIte, if_true, if_false, Bool.false_eq_true, ck_tt, v_qS, mo_k hm, mw_f hm, mo_r1 hm, mw_gates hm, mw_walkers hm, h.wb, all_nI w (by omega)]
theorem c_allW (h : WR a I W g w) (hn : WN N a) : F_World_allWalkers a (I, N) = some (nI (2 ^ w - 1)) := by
  have h8 := h.w8
  unfold F_World_allWalkers
  simp only [Option.bind_some, reduceIte, if_true, if_false, Bool.false_eq_true, ck_tt, v_qS, wa_k hn, wa_f hn, wa_s hn, wa_r1 hn, wa_r2 hn, wa_r3 hn, wa_r5 hn, wa_r6 hn, wa_r7 hn, wa_r8 hn, wa_r9 hn, wa_r10 hn, wa_r11 hn, h.wa, all_nI w (by omega)]
theorem r_bring (h : WR a I W g w) (hn : WN N a) (hm : MN K) (x : Int32) : E2 (F_Plans_fewestWhoPass a x (I, N)) (F_Mo_bring 1528 x (rowI J 1529 W, K)) (fun u u' => u = u'.1 ∧ u'.2 = (rowI (u2 J 1528 0 0) 1529 W, K)) := by
  have h8 := h.w8
  have h12 := h.g12
  have hp := p256 h8
  have hpos : 0 < 2 ^ w := Nat.pow_pos (by omega)
  unfold F_Plans_fewestWhoPass F_Mo_bring
  simp only [mw_s hm, Option.bind_some, reduceIte, if_true, if_false, Bool.false_eq_true, ck_tt]
  refine E2.left (P := fun t => t = needV a I g x g) ?_ ?_
  · refine lq1 (fun i s => s = (needV a I g x i, nI i)) _ g (lim_lt (by omega)) (Nat.zero_le _) rfl ?_ ?_
    · rintro i s hi rfl
      simp only [Option.bind_some, reduceIte, if_true, if_false, Bool.false_eq_true, ck_tt, v_qS, wa_k hn, wa_f hn, wa_s hn, wa_r1 hn, wa_r2 hn, wa_r3 hn, wa_r5 hn, wa_r6 hn, wa_r7 hn, wa_r8 hn, wa_r9 hn, wa_r10 hn, wa_r11 hn, h.ga, cm_leF hi (nat_31 (n := g) (by omega)), bt_iff, c_ask h hn hi]
      cases hb : bt x i
      · simp only [Option.bind_some, reduceIte, if_true, if_false, Bool.false_eq_true, ck_tt]
        exact E1.ok (Prod.ext (by show _ = _ ||| _; rw [hb]; rfl) (nI_1 i))
      · simp only [Option.bind_some, reduceIte, if_true, if_false, Bool.false_eq_true, ck_tt]
        exact E1.ok (Prod.ext (by show _ = _ ||| _; rw [hb]; rfl) (nI_1 i))
    · rintro s rfl
      simp only [Option.bind_some, reduceIte, if_true, if_false, Bool.false_eq_true, ck_tt, v_qS, wa_k hn, wa_f hn, wa_s hn, wa_r1 hn, wa_r2 hn, wa_r3 hn, wa_r5 hn, wa_r6 hn, wa_r7 hn, wa_r8 hn, wa_r9 hn, wa_r10 hn, wa_r11 hn, h.ga, cm_leT (Nat.le_refl g) (nat_31 (n := g) (by omega))]
      exact E1.ok rfl
  · rintro _ rfl
    refine lq2 (fun i s t => ∃ b : Option Nat, (∀ m, b = some m → m < i) ∧ s = (enc b, nI i) ∧ t = (enc b, nI i)) _ (2 ^ w) (lim_lt (by omega)) (Nat.zero_le _) ⟨none, fun m e => (by cases e), rfl, rfl⟩ ?_ ?_
    · rintro i s t hi ⟨b, hb, rfl, rfl⟩
      have hb' : ∀ m, b = some m → m < 256 := fun m e => by have := hb m e; omega
      have hb1 : ∀ m, b = some m → m < i + 1 := fun m e => by have := hb m e; omega
      have em1 : (enc b = -1) = (b = none) := by
        cases b with
        | none => exact propext ⟨fun _ => rfl, fun _ => rfl⟩
        | some m => exact propext ⟨fun z => by rw [show enc (some m) = nI m from rfl] at z; rw [nI_m1 (by have := hb' m rfl; omega)] at z; exact z.elim, fun z => by cases z⟩
      have em2 : (enc b < 0) = (b = none) := by
        cases b with
        | none => exact propext ⟨fun _ => rfl, fun _ => by show (-1 : Int32) < 0; decide⟩
        | some m => exact propext ⟨fun z => absurd z (nI_pos (by have := hb' m rfl; omega)), fun z => by cases z⟩
      simp only [Option.bind_some, reduceIte, if_true, if_false, Bool.false_eq_true, ck_tt, v_qS, wa_k hn, wa_f hn, wa_s hn, wa_r1 hn, wa_r2 hn, wa_r3 hn, wa_r5 hn, wa_r6 hn, wa_r7 hn, wa_r8 hn, wa_r9 hn, wa_r10 hn, wa_r11 hn, v_qS, mo_k hm, mw_f hm, mo_r1 hm, mw_gates hm, mw_walkers hm, c_allW h hn, m_allW h hm, cm_ltF (show i ≤ 2 ^ w - 1 by omega) (nat_31 (n := 2 ^ w - 1) (by omega)), jbc, c_tog h hn, m_tog h hm, m_opensAll h hm, em1, em2]
      have keep : E2 (some (Sum.inl (enc b, nI i + 1)) : Option ((Int32 × Int32) ⊕ Int32)) (some (Sum.inl (enc b, nI i + 1)) : Option ((Int32 × Int32) ⊕ (Int32 × Mem))) (S2 (fun s t => ∃ b : Option Nat, (∀ m, b = some m → m < i + 1) ∧ s = (enc b, nI (i + 1)) ∧ t = (enc b, nI (i + 1))) (fun u u' => u = u'.1 ∧ u'.2 = (rowI (u2 J 1528 0 0) 1529 W, K))) := E2.ok ⟨b, hb1, Prod.ext rfl (nI_1 i), Prod.ext rfl (nI_1 i)⟩
      have take : E2 (some (Sum.inl (nI i, nI i + 1)) : Option ((Int32 × Int32) ⊕ Int32)) (some (Sum.inl (nI i, nI i + 1)) : Option ((Int32 × Int32) ⊕ (Int32 × Mem))) (S2 (fun s t => ∃ b : Option Nat, (∀ m, b = some m → m < i + 1) ∧ s = (enc b, nI (i + 1)) ∧ t = (enc b, nI (i + 1))) (fun u u' => u = u'.1 ∧ u'.2 = (rowI (u2 J 1528 0 0) 1529 W, K))) := E2.ok ⟨some i, fun m e => (by cases e; omega), Prod.ext rfl (nI_1 i), Prod.ext rfl (nI_1 i)⟩
      by_cases ho : (needV a I g x g &&& (togV (I (a + 7)) w (nI i) ^^^ (-1 : Int32))) = 0
      · by_cases hnone : b = none
        · simp only [ho, hnone, Option.bind_some, reduceIte, if_true, if_false, Bool.false_eq_true, ck_tt, i32_10]
          exact take
        · by_cases hpc : pcI (enc b) ≤ pcI (nI i)
          · simp only [ho, hnone, hpc, Option.bind_some, reduceIte, if_true, if_false, Bool.false_eq_true, ck_tt, i32_10, i32_00]
            exact keep
          · simp only [ho, hnone, hpc, Option.bind_some, reduceIte, if_true, if_false, Bool.false_eq_true, ck_tt, i32_10]
            exact take
      · by_cases hnone : b = none
        · simp only [ho, hnone, Option.bind_some, reduceIte, if_true, if_false, Bool.false_eq_true, ck_tt, i32_10, i32_00]
          rw [hnone] at keep
          exact keep
        · by_cases hpc : pcI (enc b) ≤ pcI (nI i)
          · simp only [ho, hnone, hpc, Option.bind_some, reduceIte, if_true, if_false, Bool.false_eq_true, ck_tt, i32_10, i32_00]
            exact keep
          · simp only [ho, hnone, hpc, Option.bind_some, reduceIte, if_true, if_false, Bool.false_eq_true, ck_tt, i32_10, i32_00]
            exact keep
    · rintro s t ⟨b, hb, rfl, rfl⟩
      simp only [Option.bind_some, reduceIte, if_true, if_false, Bool.false_eq_true, ck_tt, v_qS, wa_k hn, wa_f hn, wa_s hn, wa_r1 hn, wa_r2 hn, wa_r3 hn, wa_r5 hn, wa_r6 hn, wa_r7 hn, wa_r8 hn, wa_r9 hn, wa_r10 hn, wa_r11 hn, v_qS, mo_k hm, mw_f hm, mo_r1 hm, mw_gates hm, mw_walkers hm, c_allW h hn, m_allW h hm, cm_ltT (show 2 ^ w - 1 < 2 ^ w by omega) (nat_31 (n := 2 ^ w) (by omega))]
      exact E2.ok ⟨rfl, rfl⟩
theorem tog_0 {f : Nat → Int32} : ∀ n, togV f n 0 = 0
  | 0 => rfl
  | n + 1 => by
    show _ ||| _ = _
    rw [tog_0 n]
    by_cases e : n < 32
    · rw [bt_zero e]; show (0 : Int32) ||| 0 = 0; decide
    · have : bt 0 n = false := by
        unfold bt
        rw [Int32.zero_shiftRight]
        decide
      rw [this]; show (0 : Int32) ||| 0 = 0; decide
theorem ask_not0 (hq : q < g) (hg : g ≤ 12) : opV a I g q 0 = false := by
  unfold opV
  refine decide_eq_false fun z => ?_
  have z := bt_sub.mp z
  unfold askV at z
  by_cases e1 : I (a + 1) q = 1
  · rw [if_pos e1] at z
    have := z q (by omega) (by rw [bt_or (by omega), bt_shl (by omega) (by omega), decide_eq_true rfl]; rfl)
    rw [bt_zero (by omega)] at this; cases this
  · rw [if_neg e1] at z
    by_cases e2 : I (a + 1) q = 2 ∧ q + 1 < g
    · rw [if_pos e2] at z
      have := z (q + 1) (by omega) (by rw [bt_shl (by omega) (by omega), decide_eq_true rfl])
      rw [bt_zero (by omega)] at this; cases this
    · rw [if_neg e2] at z
      have := z q (by omega) (by rw [bt_shl (by omega) (by omega), decide_eq_true rfl])
      rw [bt_zero (by omega)] at this; cases this
theorem and_not_self (x : Int32) : x &&& (x ^^^ (-1 : Int32)) = 0 := bt_sub.mpr fun _ _ h => h
/-- the loops of apart, behind the other side's first checks -/
def moApart (y : Int32) (M : Mem) : Option (Int32 × Mem) := loopN LIM (fun s6 : Int32 × Int32 => (ck (qS M 1528 = 19)).bind fun h8 => (F_Mo_allWalkers 1528 M).bind fun v7 => if v7 < s6.2 then (some (.inr ((s6.1, M)))) else ((F_Mo_allWalkers 1528 M).bind fun v10 => (F_Mo_allOf 1528 (v10 &&& (s6.2 ^^^ (-1 : Int32))) (3 : Int32) M).bind fun v11 => (F_Mo_opens 1528 y v11 M).bind fun v12 => (if v12 = 0 then (if s6.1 < 0 then (some true) else ((F_J_bitCount s6.2 M).bind fun v16 => (F_J_bitCount s6.1 M).bind fun v17 => if v17 ≤ v16 then (some false) else (some true))) else (some false) : Option Bool).bind fun b14 => if b14 = true then (some (.inl (s6.2, (s6.2 + (1 : Int32))))) else (some (.inl (s6.1, (s6.2 + (1 : Int32))))))) ((-1 : Int32), (0 : Int32))
theorem r_apart (h : WR a I W g w) (hn : WN N a) (hm : MN K) (hq : q < g) : E2 (F_Plans_fewestKeptAway a (nI q) (I, N)) (moApart (nI q) (rowI J 1529 W, K)) (fun u u' => u = u'.1 ∧ u'.2 = (rowI J 1529 W, K)) := by
  have h8 := h.w8
  have h12 := h.g12
  have hp := p256 h8
  have hpos : 0 < 2 ^ w := Nat.pow_pos (by omega)
  unfold F_Plans_fewestKeptAway moApart
  simp only [Option.bind_some, reduceIte, if_true, if_false, Bool.false_eq_true, ck_tt, v_qS, wa_k hn, wa_f hn, wa_s hn, wa_r1 hn, wa_r2 hn, wa_r3 hn, wa_r5 hn, wa_r6 hn, wa_r7 hn, wa_r8 hn, wa_r9 hn, wa_r10 hn, wa_r11 hn, v_qS, mo_k hm, mw_f hm, mo_r1 hm, mw_gates hm, mw_walkers hm, c_allW h hn, m_allW h hm, c_ask h hn hq, c_tog h hn, m_tog h hm, m_opens h hm hq, jbc]
  refine lq2 (fun i s t => ∃ b : Option Nat, (∀ m, b = some m → m < i) ∧ s = (nI (b.getD (2 ^ w - 1)), nI i) ∧ t = (enc b, nI i) ∧ (i = 2 ^ w → b ≠ none)) _ (2 ^ w) (lim_lt (by omega)) (Nat.zero_le _) ⟨none, fun m e => (by cases e), rfl, rfl, fun z => by omega⟩ ?_ ?_
  · rintro i s t hi ⟨b, hb, rfl, rfl, -⟩
    have hb' : ∀ m, b = some m → m < 256 := fun m e => by have := hb m e; omega
    have hb1 : ∀ m, b = some m → m < i + 1 := fun m e => by have := hb m e; omega
    have em2 : (enc b < 0) = (b = none) := by
      cases b with
      | none => exact propext ⟨fun _ => rfl, fun _ => by show (-1 : Int32) < 0; decide⟩
      | some m => exact propext ⟨fun z => absurd z (nI_pos (by have := hb' m rfl; omega)), fun z => by cases z⟩
    simp only [Option.bind_some, reduceIte, if_true, if_false, Bool.false_eq_true, ck_tt, cm_ltF (show i ≤ 2 ^ w - 1 by omega) (nat_31 (n := 2 ^ w - 1) (by omega)), em2]
    have keep : (i + 1 = 2 ^ w → b ≠ none) → E2 (some (Sum.inl (nI (b.getD (2 ^ w - 1)), nI i + 1)) : Option ((Int32 × Int32) ⊕ Int32)) (some (Sum.inl (enc b, nI i + 1)) : Option ((Int32 × Int32) ⊕ (Int32 × Mem))) (S2 (fun s t => ∃ b : Option Nat, (∀ m, b = some m → m < i + 1) ∧ s = (nI (b.getD (2 ^ w - 1)), nI (i + 1)) ∧ t = (enc b, nI (i + 1)) ∧ (i + 1 = 2 ^ w → b ≠ none)) (fun u u' => u = u'.1 ∧ u'.2 = (rowI J 1529 W, K))) := fun hz => E2.ok ⟨b, hb1, Prod.ext rfl (nI_1 i), Prod.ext rfl (nI_1 i), hz⟩
    have take : E2 (some (Sum.inl (nI i, nI i + 1)) : Option ((Int32 × Int32) ⊕ Int32)) (some (Sum.inl (nI i, nI i + 1)) : Option ((Int32 × Int32) ⊕ (Int32 × Mem))) (S2 (fun s t => ∃ b : Option Nat, (∀ m, b = some m → m < i + 1) ∧ s = (nI (b.getD (2 ^ w - 1)), nI (i + 1)) ∧ t = (enc b, nI (i + 1)) ∧ (i + 1 = 2 ^ w → b ≠ none)) (fun u u' => u = u'.1 ∧ u'.2 = (rowI J 1529 W, K))) := E2.ok ⟨some i, fun m e => (by cases e; omega), Prod.ext rfl (nI_1 i), Prod.ext rfl (nI_1 i), fun _ e => by cases e⟩
    have last : i = 2 ^ w - 1 → opV a I g q (togV (I (a + 7)) w (nI (2 ^ w - 1) &&& (nI i ^^^ (-1 : Int32)))) = false := fun e => by
      rw [e, and_not_self, tog_0]; exact ask_not0 hq h12
    cases ho : opV a I g q (togV (I (a + 7)) w (nI (2 ^ w - 1) &&& (nI i ^^^ (-1 : Int32)))) with
    | true =>
      have hl : i + 1 = 2 ^ w → b ≠ none := fun z => by rw [last (by omega)] at ho; cases ho
      have ho' : (askV a I g q &&& (togV (I (a + 7)) w (nI (2 ^ w - 1) &&& (nI i ^^^ (-1 : Int32))) ^^^ (-1 : Int32))) = 0 := of_decide_eq_true ho
      by_cases hpc : pcI (nI (b.getD (2 ^ w - 1))) ≤ pcI (nI i)
      · simp only [ho', hpc, Option.bind_some, reduceIte, if_true, if_false, Bool.false_eq_true, ck_tt, i32_10, i32_00]
        exact keep hl
      · simp only [ho', hpc, Option.bind_some, reduceIte, if_true, if_false, Bool.false_eq_true, ck_tt, i32_10, i32_00]
        exact keep hl
    | false =>
      have ho' : ((askV a I g q &&& (togV (I (a + 7)) w (nI (2 ^ w - 1) &&& (nI i ^^^ (-1 : Int32))) ^^^ (-1 : Int32))) = 0) = False := eq_false (of_decide_eq_false ho)
      cases b with
      | none =>
        by_cases hil : i = 2 ^ w - 1
        · have hx : nI (2 ^ w - 1) = nI i := by rw [hil]
          have hpc : (pcI (nI (2 ^ w - 1)) ≤ pcI (nI i)) = True := by rw [hx]; exact eq_true (Int32.le_refl _)
          simp only [ho', Option.getD_none, hpc, Option.bind_some, reduceIte, if_true, if_false, Bool.false_eq_true, ck_tt, i32_00]
          rw [hx]
          exact take
        · simp only [ho', Option.getD_none, pc_all w (by omega) i (by omega) (by omega), Option.bind_some, reduceIte, if_true, if_false, Bool.false_eq_true, ck_tt, i32_10, i32_00]
          exact take
      | some m =>
        have e9 : enc (some m) = nI m := rfl
        by_cases hpc : pcI (nI m) ≤ pcI (nI i)
        · simp only [ho', Option.getD_some, reduceCtorEq, e9, hpc, Option.bind_some, reduceIte, if_true, if_false, Bool.false_eq_true, ck_tt, i32_10, i32_00]
          exact keep (fun _ z => by cases z)
        · simp only [ho', Option.getD_some, reduceCtorEq, e9, hpc, Option.bind_some, reduceIte, if_true, if_false, Bool.false_eq_true, ck_tt, i32_10, i32_00]
          exact take
  · rintro s t ⟨b, hb, rfl, rfl, hl⟩
    simp only [Option.bind_some, reduceIte, if_true, if_false, Bool.false_eq_true, ck_tt, cm_ltT (show 2 ^ w - 1 < 2 ^ w by omega) (nat_31 (n := 2 ^ w) (by omega))]
    cases b with
    | none => exact absurd rfl (hl rfl)
    | some m => exact E2.ok ⟨rfl, rfl⟩
end PLN
