/-! what is asked of both worlds, further -/
def m00 : Mem := (fun _ _ => 0, fun _ _ => 0, fun _ _ => 0, fun _ => (0, 0), 0)
def pcI (x : Int32) : Int32 := (F_J_bitCount x m00).getD 0
theorem jbc (x : Int32) (M : Mem) : F_J_bitCount x M = some (pcI x) := rfl
/-- a sum from 0 on -/
def smV (f : Nat → Int32) : Nat → Int32
  | 0 => 0
  | n + 1 => smV f n + f n
theorem smV_cong {f f' : Nat → Int32} : ∀ {n : Nat}, (∀ i, i < n → f i = f' i) → smV f n = smV f' n
  | 0, _ => rfl
  | n + 1, h => by
    show _ + _ = _ + _
    rw [smV_cong (fun i hi => h i (by omega)), h n (by omega)]
/-- the least of those that are in question, the first of several -/
def selV (p : Nat → Bool) (pr : Nat → Int32) : Nat → Option Nat
  | 0 => none
  | n + 1 => match selV p pr n with
    | none => if p n = true then some n else none
    | some b => if p n = true ∧ pr n < pr b then some n else some b
def enc : Option Nat → Int32
  | none => -1
  | some n => nI n
theorem selV_lt {p : Nat → Bool} {pr : Nat → Int32} : ∀ {n b : Nat}, selV p pr n = some b → b < n ∧ p b = true
  | 0, b, h => by cases h
  | n + 1, b, h => by
    unfold selV at h
    cases e : selV p pr n with
    | none =>
      rw [e] at h
      by_cases c : p n = true
      · rw [show (match (none : Option Nat) with | none => if p n = true then some n else none | some b => if p n = true ∧ pr n < pr b then some n else some b) = if p n = true then some n else none from rfl, if_pos c] at h
        cases h; exact ⟨Nat.lt_succ_self _, c⟩
      · rw [show (match (none : Option Nat) with | none => if p n = true then some n else none | some b => if p n = true ∧ pr n < pr b then some n else some b) = if p n = true then some n else none from rfl, if_neg c] at h
        cases h
    | some d =>
      have ih := selV_lt e
      rw [e] at h
      by_cases c : p n = true ∧ pr n < pr d
      · rw [show (match (some d : Option Nat) with | none => if p n = true then some n else none | some b => if p n = true ∧ pr n < pr b then some n else some b) = if p n = true ∧ pr n < pr d then some n else some d from rfl, if_pos c] at h
        cases h; exact ⟨Nat.lt_succ_self _, c.1⟩
      · rw [show (match (some d : Option Nat) with | none => if p n = true then some n else none | some b => if p n = true ∧ pr n < pr b then some n else some b) = if p n = true ∧ pr n < pr d then some n else some d from rfl, if_neg c] at h
        cases h; exact ⟨by omega, ih.2⟩
theorem selV_cong {p p' : Nat → Bool} {pr : Nat → Int32} : ∀ {n : Nat}, (∀ i, i < n → p i = p' i) → selV p pr n = selV p' pr n
  | 0, _ => rfl
  | n + 1, h => by
    unfold selV
    rw [selV_cong (n := n) (fun i hi => h i (by omega)), h n (by omega)]
section QRY
variable {a g w k v q : Nat} {I I' I2 : IM} {W W' : Nat → Int32} {N K : NM} {J : IM} {M M' : Mem}
theorem c_knows (h : WR a I W g w) (hn : WN N a) (hv : v < w) (q : Nat) : F_World_knows a (nI v) (nI q) (I, N) = some (if bt (I (a + 7) v) q = true then 1 else 0) := by
  have h8 := h.w8
  have hv8 : v < 8 := by omega
  unfold F_World_knows
  simp only [Option.bind_some, reduceIte, if_true, if_false, Bool.false_eq_true, ck_tt, v_qS, wa_k hn, wa_f hn, wa_s hn, wa_r1 hn, wa_r2 hn, wa_r3 hn, wa_r5 hn, wa_r6 hn, wa_r7 hn, wa_r8 hn, wa_r9 hn, wa_r10 hn, wa_r11 hn, wa_w4 hn hv8, wa_w5 hn hv8, wa_w6 hn hv8, wa_w7 hn hv8, wa_w8 hn hv8, wa_t4 hn hv8, wa_t5 hn hv8, wa_t6 hn hv8, wa_t7 hn hv8, wa_t8 hn hv8, wa_q9 hn hv8, wa_q18 hn hv8, bt_iff]
  cases bt (I (a + 7) v) q <;> rfl
def slB (a : Nat) (I : IM) (v q : Nat) : Bool := bt (I (a + 7) v) q && decide (I (a + 19 + v) q ≠ -1)
theorem c_sells (h : WR a I W g w) (hn : WN N a) (hv : v < w) (hq : q < 12) : F_World_sells a (nI v) (nI q) (I, N) = some (if slB a I v q = true then 1 else 0) := by
  have h8 := h.w8
  have hv8 : v < 8 := by omega
  unfold F_World_sells slB
  simp only [Option.bind_some, reduceIte, if_true, if_false, Bool.false_eq_true, ck_tt, v_qS, wa_k hn, wa_f hn, wa_s hn, wa_r1 hn, wa_r2 hn, wa_r3 hn, wa_r5 hn, wa_r6 hn, wa_r7 hn, wa_r8 hn, wa_r9 hn, wa_r10 hn, wa_r11 hn, c_knows h hn hv, wa_q18 hn hv8, wa_a18 hn hv8 hq]
  cases bt (I (a + 7) v) q with
  | false => rfl
  | true =>
    by_cases e : I (a + 19 + v) q = -1
    · rw [decide_eq_false (fun z => z e)]; simp only [e, Option.bind_some, reduceIte, if_true, if_false, Bool.false_eq_true, ck_tt, i32_10]; rfl
    · rw [decide_eq_true e]; simp only [e, Option.bind_some, reduceIte, if_true, if_false, Bool.false_eq_true, ck_tt, i32_10]; rfl
theorem pr_neg (h : WR a I W g w) (hv : v < w) (hq : q < 12) : (I (a + 19 + v) q < 0) = (I (a + 19 + v) q = -1) := by
  rcases (h.oc hv).2.2.2.2.2.2.1 q hq with e | ⟨n, hn, e⟩
  · rw [e]; exact propext ⟨fun _ => rfl, fun _ => by decide⟩
  · rw [e]
    refine propext ⟨fun z => absurd z (nI_pos (by omega)), fun z => ?_⟩
    have := congrArg Int32.toInt z
    rw [nI_toInt (by omega)] at this
    have e1 : (-1 : Int32).toInt = -1 := by decide
    omega
theorem m_sale (h : WR a I W g w) (hm : MN K) (hv : v < w) (hq : q < 12) : F_Mo_isForSale 1528 (nI v) (nI q) (rowI J 1529 W, K) = some (if slB a I v q = true then 1 else 0) := by
  have h8 := h.w8
  have hv8 : v < 8 := by omega
  unfold F_Mo_isForSale slB
  simp only [Option.bind_some, reduceIte, if_true, if_false, Bool.false_eq_true, ck_tt, v_qS, mo_k hm, mw_f hm, mo_r1 hm, mw_gates hm, mw_walkers hm, mw_of0 hm hv8, mw_of1 hm hv8, mw_of2 hm hv8, mw_of3 hm hv8, mw_of4 hm hv8, mw_of5 hm hv8, mw_st0 hm hv8, mw_st1 hm hv8, mw_st2 hm hv8, mw_st3 hm hv8, mw_st4 hm hv8, mw_st5 hm hv8, mw_ofp hm hv8 hq, mw_ofs hm hv8 hq, mw_stp hm hv8 hq, mw_sts hm hv8 hq, mo_has rfl, (h.oc hv).1.2.2.2.1, (h.oc hv).2.1 q hq, pr_neg h hv hq]
  cases bt (I (a + 7) v) q with
  | false => rfl
  | true =>
    by_cases e : I (a + 19 + v) q = -1
    · rw [decide_eq_false (fun z => z e)]; simp only [e, Option.bind_some, reduceIte, if_true, if_false, Bool.false_eq_true, ck_tt, i32_10]; rfl
    · rw [decide_eq_true e]; simp only [e, Option.bind_some, reduceIte, if_true, if_false, Bool.false_eq_true, ck_tt, i32_10]; rfl
theorem enc_m1 {x : Option Nat} (h : ∀ n, x = some n → n < 100) : (enc x = -1) = (x = none) := by
  cases x with
  | none => exact propext ⟨fun _ => rfl, fun _ => rfl⟩
  | some n =>
    refine propext ⟨fun z => ?_, fun z => by cases z⟩
    have := congrArg Int32.toInt (show nI n = -1 from z)
    rw [nI_toInt (by have := h n rfl; omega)] at this
    have e1 : (-1 : Int32).toInt = -1 := by decide
    omega
theorem enc_neg {x : Option Nat} (h : ∀ n, x = some n → n < 100) : (enc x < 0) = (x = none) := by
  cases x with
  | none => exact propext ⟨fun _ => rfl, fun _ => by show (-1 : Int32) < 0; decide⟩
  | some n => exact propext ⟨fun z => absurd z (nI_pos (by have := h n rfl; omega)), fun z => by cases z⟩
def chpV (a : Nat) (I : IM) (w q : Nat) : Option Nat := selV (fun i => slB a I i q) (fun i => I (a + 19 + i) q) w
theorem c_chp (h : WR a I W g w) (hn : WN N a) (hq : q < 12) : F_World_cheapestSeller a (nI q) (I, N) = some (enc (chpV a I w q)) := by
  have h8 := h.w8
  unfold F_World_cheapestSeller
  refine E1.eq (lq1 (fun i s => s = (enc (chpV a I i q), nI i)) _ w (lim_lt (by omega)) (Nat.zero_le _) rfl ?_ ?_)
  · rintro i s hi rfl
    have hi8 : i < 8 := by omega
    have hlt : ∀ n, chpV a I i q = some n → n < i := fun n e => (selV_lt e).1
    have hstep : chpV a I (i + 1) q = match chpV a I i q with | none => if slB a I i q = true then some i else none | some b => if slB a I i q = true ∧ I (a + 19 + i) q < I (a + 19 + b) q then some i else some b := rfl
    simp only [Option.bind_some, reduceIte, if_true, if_false, Bool.false_eq_true, ck_tt, v_qS, wa_k hn, wa_f hn, wa_s hn, wa_r1 hn, wa_r2 hn, wa_r3 hn, wa_r5 hn, wa_r6 hn, wa_r7 hn, wa_r8 hn, wa_r9 hn, wa_r10 hn, wa_r11 hn, h.wa, cm_leF hi (nat_31 (n := w) (by omega)), c_sells h hn hi hq, wa_q18 hn hi8, wa_a18 hn hi8 hq]
    cases hs : slB a I i q with
    | false =>
      simp only [Option.bind_some, reduceIte, if_true, if_false, Bool.false_eq_true, ck_tt, i32_00]
      refine E1.ok (Prod.ext ?_ (nI_1 i))
      rw [hstep, hs]
      cases chpV a I i q <;> simp
    | true =>
      simp only [Option.bind_some, reduceIte, if_true, if_false, Bool.false_eq_true, ck_tt, i32_10, enc_m1 (fun n e => by have := hlt n e; omega)]
      cases hb : chpV a I i q with
      | none =>
        simp only [Option.bind_some, reduceIte, if_true, if_false, Bool.false_eq_true, ck_tt]
        refine E1.ok (Prod.ext ?_ (nI_1 i))
        rw [hstep, hs, hb]; rfl
      | some b =>
        have hb8 : b < 8 := by have := hlt b hb; omega
        simp only [Option.bind_some, reduceIte, if_true, if_false, Bool.false_eq_true, ck_tt, reduceCtorEq, show enc (some b) = nI b from rfl, wa_q18 hn hb8, wa_a18 hn hb8 hq]
        by_cases hc : I (a + 19 + b) q ≤ I (a + 19 + i) q
        · simp only [hc, Option.bind_some, reduceIte, if_true, if_false, Bool.false_eq_true, ck_tt]
          refine E1.ok (Prod.ext ?_ (nI_1 i))
          rw [hstep, hs, hb]
          have : ¬ I (a + 19 + i) q < I (a + 19 + b) q := Int32.not_lt.mpr hc
          simp [this]; rfl
        · simp only [hc, Option.bind_some, reduceIte, if_true, if_false, Bool.false_eq_true, ck_tt]
          refine E1.ok (Prod.ext ?_ (nI_1 i))
          rw [hstep, hs, hb]
          have : I (a + 19 + i) q < I (a + 19 + b) q := Int32.not_le.mp hc
          simp [this]; rfl
  · rintro s rfl
    simp only [Option.bind_some, reduceIte, if_true, if_false, Bool.false_eq_true, ck_tt, v_qS, wa_k hn, wa_f hn, wa_s hn, wa_r1 hn, wa_r2 hn, wa_r3 hn, wa_r5 hn, wa_r6 hn, wa_r7 hn, wa_r8 hn, wa_r9 hn, wa_r10 hn, wa_r11 hn, h.wa, cm_leT (Nat.le_refl w) (nat_31 (n := w) (by omega))]
    exact E1.ok rfl
def selrV (a : Nat) (I : IM) (w q : Nat) (x : Int32) : Option Nat := selV (fun i => !bt x i && slB a I i q) (fun i => I (a + 19 + i) q) w
theorem m_selr (h : WR a I W g w) (hm : MN K) (hq : q < 12) (x : Int32) : F_Mo_sellerOf 1528 (nI q) x (rowI J 1529 W, K) = some (enc (selrV a I w q x)) := by
  have h8 := h.w8
  unfold F_Mo_sellerOf
  refine E1.eq (lq1 (fun i s => s = (enc (selrV a I i q x), nI i)) _ w (lim_lt (by omega)) (Nat.zero_le _) rfl ?_ ?_)
  · rintro i s hi rfl
    have hi8 : i < 8 := by omega
    have hlt : ∀ n, selrV a I i q x = some n → n < i := fun n e => (selV_lt e).1
    have hstep : selrV a I (i + 1) q x = match selrV a I i q x with | none => if (!bt x i && slB a I i q) = true then some i else none | some b => if (!bt x i && slB a I i q) = true ∧ I (a + 19 + i) q < I (a + 19 + b) q then some i else some b := rfl
    simp only [Option.bind_some, reduceIte, if_true, if_false, Bool.false_eq_true, ck_tt, v_qS, mo_k hm, mw_f hm, mo_r1 hm, mw_gates hm, mw_walkers hm, h.wb, cm_leF hi (nat_31 (n := w) (by omega)), m_sale h hm hi hq, mo_has rfl, mw_ofp hm hi8 hq, mw_ofs hm hi8 hq, mw_stp hm hi8 hq, mw_sts hm hi8 hq, (h.oc hi).2.1 q hq]
    cases hx : bt x i with
    | true =>
      simp only [Option.bind_some, reduceIte, if_true, if_false, Bool.false_eq_true, ck_tt, i32_10]
      refine E1.ok (Prod.ext ?_ (nI_1 i))
      rw [hstep, hx]
      cases selrV a I i q x <;> simp
    | false =>
      cases hs : slB a I i q with
      | false =>
        simp only [Option.bind_some, reduceIte, if_true, if_false, Bool.false_eq_true, ck_tt, i32_00]
        refine E1.ok (Prod.ext ?_ (nI_1 i))
        rw [hstep, hs]
        cases selrV a I i q x <;> simp
      | true =>
        simp only [Option.bind_some, reduceIte, if_true, if_false, Bool.false_eq_true, ck_tt, i32_10, i32_00, enc_neg (fun n e => by have := hlt n e; omega)]
        cases hb : selrV a I i q x with
        | none =>
          simp only [Option.bind_some, reduceIte, if_true, if_false, Bool.false_eq_true, ck_tt]
          refine E1.ok (Prod.ext ?_ (nI_1 i))
          rw [hstep, hs, hb, hx]; rfl
        | some b =>
          have hbw : b < w := by have := hlt b hb; omega
          have hb8 : b < 8 := by omega
          simp only [Option.bind_some, reduceIte, if_true, if_false, Bool.false_eq_true, ck_tt, reduceCtorEq, show enc (some b) = nI b from rfl, mw_ofp hm hb8 hq, mw_ofs hm hb8 hq, mw_stp hm hb8 hq, mw_sts hm hb8 hq, (h.oc hbw).2.1 q hq]
          by_cases hc : I (a + 19 + b) q ≤ I (a + 19 + i) q
          · simp only [hc, Option.bind_some, reduceIte, if_true, if_false, Bool.false_eq_true, ck_tt]
            refine E1.ok (Prod.ext ?_ (nI_1 i))
            rw [hstep, hs, hb]
            have : ¬ I (a + 19 + i) q < I (a + 19 + b) q := Int32.not_lt.mpr hc
            simp [this]; rfl
          · simp only [hc, Option.bind_some, reduceIte, if_true, if_false, Bool.false_eq_true, ck_tt]
            refine E1.ok (Prod.ext ?_ (nI_1 i))
            rw [hstep, hs, hb, hx]
            have : I (a + 19 + i) q < I (a + 19 + b) q := Int32.not_le.mp hc
            simp [this]; rfl
  · rintro s rfl
    simp only [Option.bind_some, reduceIte, if_true, if_false, Bool.false_eq_true, ck_tt, v_qS, mo_k hm, mw_f hm, mo_r1 hm, mw_gates hm, mw_walkers hm, h.wb, cm_leT (Nat.le_refl w) (nat_31 (n := w) (by omega))]
    exact E1.ok rfl
def canV (a : Nat) (I : IM) (g v n : Nat) : Bool := decide (n < g) && (decide (¬ I (a + 5) v < I (a + 2) n) && mayV a I g v n false)
theorem c_can (h : WR a I W g w) (hn : WN N a) (hv : v < w) {n : Nat} (he : I (a + 4) v = nI n) (hng : n ≤ g) : F_World_canPass a (nI v) (I, N) = some (if canV a I g v n = true then 1 else 0) := by
  have h8 := h.w8
  have h12 := h.g12
  have hv8 : v < 8 := by omega
  unfold F_World_canPass F_World_isBehindAll canV
  simp only [Option.bind_some, reduceIte, if_true, if_false, Bool.false_eq_true, ck_tt, v_qS, wa_k hn, wa_f hn, wa_s hn, wa_r1 hn, wa_r2 hn, wa_r3 hn, wa_r5 hn, wa_r6 hn, wa_r7 hn, wa_r8 hn, wa_r9 hn, wa_r10 hn, wa_r11 hn, wa_w4 hn hv8, wa_w5 hn hv8, wa_w6 hn hv8, wa_w7 hn hv8, wa_w8 hn hv8, wa_t4 hn hv8, wa_t5 hn hv8, wa_t6 hn hv8, wa_t7 hn hv8, wa_t8 hn hv8, wa_q9 hn hv8, wa_q18 hn hv8, he, h.ga, nI_ltI (nat_31 (n := n) (by omega)) (nat_31 (n := g) (by omega))]
  by_cases hlt : n < g
  · have hn12 : n < 12 := by omega
    simp only [hlt, Option.bind_some, reduceIte, if_true, if_false, Bool.false_eq_true, ck_tt, i32_00, wa_g1 hn hn12, wa_g2 hn hn12, wa_g3 hn hn12, wa_h1 hn hn12, wa_h2 hn hn12, wa_h3 hn hn12, c_may h hn hv hlt (x := 0) false ⟨fun _ => rfl, fun _ => rfl⟩, decide_true, Bool.true_and]
    by_cases hc : I (a + 5) v < I (a + 2) n
    · simp only [hc, Option.bind_some, reduceIte, if_true, if_false, Bool.false_eq_true, ck_tt, not_true_eq_false, decide_false, Bool.false_and]
    · simp only [hc, Option.bind_some, reduceIte, if_true, if_false, Bool.false_eq_true, ck_tt, not_false_eq_true, decide_true, Bool.true_and]
      cases mayV a I g v n false <;> rfl
  · simp only [hlt, Option.bind_some, reduceIte, if_true, if_false, Bool.false_eq_true, ck_tt, i32_10, decide_false, Bool.false_and]
theorem m_can (h : WR a I W g w) (hm : MN K) (hv : v < w) {n : Nat} (he : I (a + 4) v = nI n) (hng : n ≤ g) : F_Mo_canPass 1528 (nI v) (rowI J 1529 W, K) = some (if canV a I g v n = true then 1 else 0) := by
  have h8 := h.w8
  have h12 := h.g12
  have hv8 : v < 8 := by omega
  unfold F_Mo_canPass canV
  simp only [Option.bind_some, reduceIte, if_true, if_false, Bool.false_eq_true, ck_tt, v_qS, mo_k hm, mw_f hm, mo_r1 hm, mw_gates hm, mw_walkers hm, mw_of0 hm hv8, mw_of1 hm hv8, mw_of2 hm hv8, mw_of3 hm hv8, mw_of4 hm hv8, mw_of5 hm hv8, mw_st0 hm hv8, mw_st1 hm hv8, mw_st2 hm hv8, mw_st3 hm hv8, mw_st4 hm hv8, mw_st5 hm hv8, (h.oc hv).1.1, (h.oc hv).1.2.1, he, h.gb, nI_leI (nat_31 (n := g) (by omega)) (nat_31 (n := n) (by omega))]
  by_cases hlt : n < g
  · have hn12 : n < 12 := by omega
    have hle : ¬ g ≤ n := by omega
    simp only [hlt, hle, Option.bind_some, reduceIte, if_true, if_false, Bool.false_eq_true, ck_tt, mw_og0 hm hn12, mw_og1 hm hn12, mw_og2 hm hn12, (h.ob hlt).1.2.1, m_may h hm hv hlt (x := 0) false ⟨fun _ => rfl, fun _ => rfl⟩, decide_true, Bool.true_and]
    cases mayV a I g v n false with
    | false => simp only [Option.bind_some, reduceIte, if_true, if_false, Bool.false_eq_true, ck_tt, i32_00, Bool.and_false]
    | true =>
      simp only [Option.bind_some, reduceIte, if_true, if_false, Bool.false_eq_true, ck_tt, i32_10, Bool.and_true]
      by_cases hc : I (a + 5) v < I (a + 2) n
      · simp only [hc, Option.bind_some, reduceIte, if_true, if_false, Bool.false_eq_true, ck_tt, not_true_eq_false, decide_false]
      · simp only [hc, Option.bind_some, reduceIte, if_true, if_false, Bool.false_eq_true, ck_tt, not_false_eq_true, decide_true]
  · have hle : g ≤ n := by omega
    simp only [hlt, hle, Option.bind_some, reduceIte, if_true, if_false, Bool.false_eq_true, ck_tt, decide_false, Bool.false_and]
def csV (a : Nat) (I : IM) (s b q : Nat) : Bool := slB a I s q && (!bt (I (a + 7) b) q && (decide (¬ I (a + 5) b < I (a + 19 + s) q) && decide (¬ (9999 : Int32) < I (a + 5) s + I (a + 19 + s) q)))
theorem c_cs (h : WR a I W g w) (hn : WN N a) {s b : Nat} (hs : s < w) (hb : b < w) (hq : q < 12) : F_World_canSell a (nI s) (nI b) (nI q) (I, N) = some (if csV a I s b q = true then 1 else 0) := by
  have h8 := h.w8
  have hs8 : s < 8 := by omega
  have hb8 : b < 8 := by omega
  unfold F_World_canSell csV
  simp only [Option.bind_some, reduceIte, if_true, if_false, Bool.false_eq_true, ck_tt, v_qS, wa_k hn, wa_f hn, wa_s hn, wa_r1 hn, wa_r2 hn, wa_r3 hn, wa_r5 hn, wa_r6 hn, wa_r7 hn, wa_r8 hn, wa_r9 hn, wa_r10 hn, wa_r11 hn, wa_w4 hn hs8, wa_w5 hn hs8, wa_w6 hn hs8, wa_w7 hn hs8, wa_w8 hn hs8, wa_t4 hn hs8, wa_t5 hn hs8, wa_t6 hn hs8, wa_t7 hn hs8, wa_t8 hn hs8, wa_q9 hn hs8, wa_q18 hn hs8, wa_w4 hn hb8, wa_w5 hn hb8, wa_w6 hn hb8, wa_w7 hn hb8, wa_w8 hn hb8, wa_t4 hn hb8, wa_t5 hn hb8, wa_t6 hn hb8, wa_t7 hn hb8, wa_t8 hn hb8, wa_q9 hn hb8, wa_q18 hn hb8, wa_a18 hn hs8 hq, c_sells h hn hs hq, c_knows h hn hb]
  cases slB a I s q with
  | false => simp only [Option.bind_some, reduceIte, if_true, if_false, Bool.false_eq_true, ck_tt, i32_00, Bool.false_and]
  | true =>
    cases bt (I (a + 7) b) q with
    | true => simp only [Option.bind_some, reduceIte, if_true, if_false, Bool.false_eq_true, ck_tt, i32_10, Bool.not_true, Bool.false_and, Bool.and_false]
    | false =>
      simp only [Option.bind_some, reduceIte, if_true, if_false, Bool.false_eq_true, ck_tt, i32_10, i32_00, Bool.not_false, Bool.true_and]
      by_cases c1 : I (a + 5) b < I (a + 19 + s) q
      · simp only [c1, Option.bind_some, reduceIte, if_true, if_false, Bool.false_eq_true, ck_tt, not_true_eq_false, decide_false, Bool.false_and]
      · by_cases c2 : (9999 : Int32) < I (a + 5) s + I (a + 19 + s) q
        · simp only [c1, c2, Option.bind_some, reduceIte, if_true, if_false, Bool.false_eq_true, ck_tt, not_true_eq_false, decide_false, Bool.and_false]
        · simp only [c1, c2, Option.bind_some, reduceIte, if_true, if_false, Bool.false_eq_true, ck_tt, not_false_eq_true, decide_true, Bool.and_self]
theorem m_cs (h : WR a I W g w) (hm : MN K) {s b : Nat} (hs : s < w) (hb : b < w) (hq : q < 12) : F_Mo_canSell 1528 (nI s) (nI b) (nI q) (rowI J 1529 W, K) = some (if csV a I s b q = true then 1 else 0) := by
  have h8 := h.w8
  have hs8 : s < 8 := by omega
  have hb8 : b < 8 := by omega
  unfold F_Mo_canSell csV
  simp only [Option.bind_some, reduceIte, if_true, if_false, Bool.false_eq_true, ck_tt, v_qS, mo_k hm, mw_f hm, mo_r1 hm, mw_gates hm, mw_walkers hm, m_sale h hm hs hq, mw_of0 hm hs8, mw_of1 hm hs8, mw_of2 hm hs8, mw_of3 hm hs8, mw_of4 hm hs8, mw_of5 hm hs8, mw_st0 hm hs8, mw_st1 hm hs8, mw_st2 hm hs8, mw_st3 hm hs8, mw_st4 hm hs8, mw_st5 hm hs8, mw_of0 hm hb8, mw_of1 hm hb8, mw_of2 hm hb8, mw_of3 hm hb8, mw_of4 hm hb8, mw_of5 hm hb8, mw_st0 hm hb8, mw_st1 hm hb8, mw_st2 hm hb8, mw_st3 hm hb8, mw_st4 hm hb8, mw_st5 hm hb8, mw_ofp hm hs8 hq, mw_ofs hm hs8 hq, mw_stp hm hs8 hq, mw_sts hm hs8 hq, mo_has rfl, (h.oc hb).1.2.2.2.1, (h.oc hs).1.2.1, (h.oc hb).1.2.1, (h.oc hs).2.1 q hq]
  cases slB a I s q with
  | false => simp only [Option.bind_some, reduceIte, if_true, if_false, Bool.false_eq_true, ck_tt, i32_00, Bool.false_and]
  | true =>
    cases bt (I (a + 7) b) q with
    | true => simp only [Option.bind_some, reduceIte, if_true, if_false, Bool.false_eq_true, ck_tt, i32_10, Bool.not_true, Bool.false_and, Bool.and_false]
    | false =>
      simp only [Option.bind_some, reduceIte, if_true, if_false, Bool.false_eq_true, ck_tt, i32_10, i32_00, Bool.not_false, Bool.true_and]
      by_cases c1 : I (a + 5) b < I (a + 19 + s) q
      · simp only [c1, Option.bind_some, reduceIte, if_true, if_false, Bool.false_eq_true, ck_tt, not_true_eq_false, decide_false, Bool.false_and]
      · by_cases c2 : (9999 : Int32) < I (a + 5) s + I (a + 19 + s) q
        · simp only [c1, c2, Option.bind_some, reduceIte, if_true, if_false, Bool.false_eq_true, ck_tt, not_true_eq_false, decide_false, Bool.and_false]
        · simp only [c1, c2, Option.bind_some, reduceIte, if_true, if_false, Bool.false_eq_true, ck_tt, not_false_eq_true, decide_true, Bool.and_self]
end QRY
