/-! the cheapest way: both sides' answers are one -/
section BUY3
variable {a g w k v q p wt t : Nat} {I I' I2 : IM} {W W' : Nat → Int32} {N K : NM} {J : IM} {M M' : Mem} {P : List lnT}
theorem chp_out (h : WR a I W g w) {x : Int32} (hq : q < 32) (hT : bt (togV (I (a + 7)) w x) q = false) : selrV a I w q x = chpV a I w q := by
  refine selV_cong fun i hi => ?_
  cases hx : bt x i with
  | false => rfl
  | true =>
    have : bt (I (a + 7) i) q = false := by
      cases hz : bt (I (a + 7) i) q with
      | false => rfl
      | true => rw [(bt_tog hq w).mpr ⟨i, hi, hx, hz⟩] at hT; cases hT
    show (!true && slB a I i q) = slB a I i q
    unfold slB
    rw [this]; rfl
theorem num_lt {m k : Nat} (hm : m < 4096) (hk : m.testBit k = true) : k < 12 := by
  refine Nat.not_le.mp fun z => ?_
  rw [Nat.testBit_lt_two_pow (Nat.lt_of_lt_of_le hm (Nat.le_trans (Nat.le_of_eq e4096.symm) (Nat.pow_le_pow_right (by omega) z)))] at hk
  cases hk
def costV (a : Nat) (I : IM) (t w : Nat) (x : Int32) : Int32 := smV (fun v => if bt x v = true then tolV a I (atN a I v) t else 0) w
theorem c_purch (h : WR a I W g w) (hn : WN N a) (ht : t ≤ g) (x z : Int32) : E1 (F_Plans_purchases a x (nI t) z (I, N)) (fun u =>
    (u = -1 ∧ ∃ v, v < w ∧ bt x v = true ∧ ¬ wayV a I t v) ∨
    ((∀ v, v < w → bt x v = true → wayV a I t v) ∧ ∃ m, m < 4096 ∧ (∀ k, k < 32 → (m.testBit k = true ↔ wantV a I g t x w k ∧ bt (togV (I (a + 7)) w x) k = false)) ∧
      ((u = -1 ∧ ∃ q, q < g ∧ m.testBit q = true ∧ selrV a I w q x = none) ∨ ((∀ q, q < g → m.testBit q = true → selrV a I w q x ≠ none) ∧ u = if z = 0 then costV a I t w x + nI (SN a I w x m g) else nI m)))) := by
  have h8 := h.w8
  have h12 := h.g12
  unfold F_Plans_purchases
  obtain ⟨r, er, hr⟩ := c_needs h hn ht x
  rw [er]
  rcases hr with ⟨need, rfl, hneed, hway⟩ | ⟨rfl, hno⟩
  · rw [bdS_l]
    simp only [Option.bind_some, reduceIte, if_true, if_false, Bool.false_eq_true, ck_tt, v_qS, wa_k hn, wa_f hn, wa_s hn, wa_r1 hn, wa_r2 hn, wa_r3 hn, wa_r5 hn, wa_r6 hn, wa_r7 hn, wa_r8 hn, wa_r9 hn, wa_r10 hn, wa_r11 hn, c_tog h hn]
    obtain ⟨m, hm, em⟩ := bt_num (x := need &&& (togV (I (a + 7)) w x ^^^ (-1 : Int32))) (n := 12) (by omega) (fun k h1 h2 => by
      cases hz : bt (need &&& (togV (I (a + 7)) w x ^^^ (-1 : Int32))) k with
      | false => rfl
      | true =>
        rw [bt_and h2] at hz
        obtain ⟨v, hv, hb, q, r1, r2, r3⟩ := (hneed k h2).mp (Bool.and_eq_true_iff.mp hz).1
        rw [askV_in h (by omega) (by omega) h2] at r3; cases r3)
    rw [e4096] at hm
    have hbits : ∀ k, k < 32 → (m.testBit k = true ↔ wantV a I g t x w k ∧ bt (togV (I (a + 7)) w x) k = false) := by
      intro k hk
      rw [← bt_nI hk, ← em, bt_and hk, bt_not hk, Bool.and_eq_true_iff, hneed k hk, Bool.not_eq_true']
    rw [em]
    refine E1.bind (P := fun r => (∃ (_ : ∀ q, q < g → m.testBit q = true → selrV a I w q x ≠ none), r = Sum.inl (costV a I t w x + nI (SN a I w x m g))) ∨ (r = Sum.inr (-1) ∧ ∃ q, q < g ∧ m.testBit q = true ∧ selrV a I w q x = none)) ?_ ?_
    · refine lq1 (fun q s => (∀ q', q' < q → m.testBit q' = true → selrV a I w q' x ≠ none) ∧ s = (costV a I t w x + nI (SN a I w x m q), nI q)) _ g (lim_lt (by omega)) (Nat.zero_le _) ⟨fun q' hq' => absurd hq' (Nat.not_lt_zero _), Prod.ext (by show _ = costV a I t w x + nI 0; rw [nI_0, Int32.add_zero]; rfl) rfl⟩ ?_ ?_
      · rintro q s hq ⟨hs, rfl⟩
        have hq12 : q < 12 := by omega
        simp only [Option.bind_some, reduceIte, if_true, if_false, Bool.false_eq_true, ck_tt, v_qS, wa_k hn, wa_f hn, wa_s hn, wa_r1 hn, wa_r2 hn, wa_r3 hn, wa_r5 hn, wa_r6 hn, wa_r7 hn, wa_r8 hn, wa_r9 hn, wa_r10 hn, wa_r11 hn, h.ga, cm_leF hq (nat_31 (n := g) (by omega)), bt_iff, bt_nI (show q < 32 by omega)]
        cases hb : m.testBit q with
        | false =>
          simp only [Option.bind_some, reduceIte, if_true, if_false, Bool.false_eq_true, ck_tt]
          refine E1.ok ⟨fun q' hq' hb' => ?_, Prod.ext ?_ (nI_1 q)⟩
          · by_cases e : q' = q
            · rw [e, hb] at hb'; cases hb'
            · exact hs q' (by omega) hb'
          · show _ = _ + nI (_ + if m.testBit q = true then _ else 0)
            rw [hb, if_neg (by decide), Nat.add_zero]
        | true =>
          have hout := chp_out h (x := x) (show q < 32 by omega) ((hbits q (by omega)).mp hb).2
          have hlt1 : ∀ m, chpV a I w q = some m → m < w := fun m e => (selV_lt e).1
          simp only [Option.bind_some, reduceIte, if_true, if_false, Bool.false_eq_true, ck_tt, c_chp h hn hq12, enc_m1 (x := chpV a I w q) (fun m e => by have := hlt1 m e; omega)]
          cases hc : chpV a I w q with
          | none =>
            simp only [Option.bind_some, reduceIte, if_true, if_false, Bool.false_eq_true, ck_tt]
            exact E1.ok (Or.inr ⟨rfl, q, hq, hb, by rw [hout, hc]⟩)
          | some s =>
            have hsr : selrV a I w q x = some s := by rw [hout, hc]
            obtain ⟨e1, e2, e3⟩ := pN_some h hq12 hsr
            have hs8 : s < 8 := by omega
            simp only [reduceCtorEq, Option.bind_some, reduceIte, if_true, if_false, Bool.false_eq_true, ck_tt, show enc (some s) = nI s from rfl, wa_q18 hn hs8, wa_a18 hn hs8 hq12, e1]
            refine E1.ok ⟨fun q' hq' hb' => ?_, Prod.ext ?_ (nI_1 q)⟩
            · by_cases e : q' = q
              · rw [e, hsr]; exact fun z => by cases z
              · exact hs q' (by omega) hb'
            · show _ = _ + nI (_ + if m.testBit q = true then _ else 0)
              rw [hb, if_pos rfl, ← nI_add, Int32.add_assoc]
      · rintro s ⟨hs, rfl⟩
        simp only [Option.bind_some, reduceIte, if_true, if_false, Bool.false_eq_true, ck_tt, v_qS, wa_k hn, wa_f hn, wa_s hn, wa_r1 hn, wa_r2 hn, wa_r3 hn, wa_r5 hn, wa_r6 hn, wa_r7 hn, wa_r8 hn, wa_r9 hn, wa_r10 hn, wa_r11 hn, h.ga, cm_leT (Nat.le_refl g) (nat_31 (n := g) (by omega))]
        exact E1.ok (Or.inl ⟨hs, rfl⟩)
    · rintro r (⟨hs, rfl⟩ | ⟨rfl, hs⟩)
      · refine ⟨_, ?_, Or.inr ⟨hway, m, hm, hbits, Or.inr ⟨hs, rfl⟩⟩⟩
        by_cases hz : z = 0
        · rw [if_pos hz]; simp only [Sum.elim_inl, hz, Option.bind_some, reduceIte, if_true, if_false, Bool.false_eq_true, ck_tt]
        · rw [if_neg hz]; simp only [Sum.elim_inl, hz, Option.bind_some, reduceIte, if_true, if_false, Bool.false_eq_true, ck_tt]
      · exact E1.ok (Or.inr ⟨hway, m, hm, hbits, Or.inl ⟨rfl, hs⟩⟩)
  · exact E1.ok (Or.inl ⟨rfl, hno⟩)
theorem tog_bits {f : Nat → Int32} {x X : Int32} : ∀ {n : Nat}, (∀ i, i < n → bt x i = bt X i) → togV f n x = togV f n X
  | 0, _ => rfl
  | n + 1, h => by
    show _ ||| (if bt x n = true then _ else _) = _ ||| (if bt X n = true then _ else _)
    rw [tog_bits (fun i hi => h i (by omega)), h n (by omega)]
theorem r_plan (h : WR a I W g w) (hn : WN N a) (hm : MN K) (ht : t ≤ g) {x X : Int32} (hx : ∀ v, v < w → bt x v = bt X v) (z : Int32) :
    E2 (F_Plans_purchases a x (nI t) z (I, N)) (F_Mo_buys 1528 X (nI t) (rowI J 1529 W, K)) (fun u M' => ∃ b pr, M' = (rowI (u2 (u2 J 1528 17 b) 1528 18 pr) 1529 W, K) ∧ ((b = -1 ∧ u = -1) ∨ ∃ m, m < 4096 ∧ b = nI m ∧ u = if z = 0 then costV a I t w x + pr else nI m)) := by
  have h8 := h.w8
  have h12 := h.g12
  have e1 : togV (I (a + 7)) w x = togV (I (a + 7)) w X := tog_bits hx
  have e2 : ∀ k, wantV a I g t x w k ↔ wantV a I g t X w k := fun k => ⟨fun ⟨v, hv, hb, r⟩ => ⟨v, hv, hx v hv ▸ hb, r⟩, fun ⟨v, hv, hb, r⟩ => ⟨v, hv, (hx v hv).symm ▸ hb, r⟩⟩
  have e3 : ∀ q, selrV a I w q x = selrV a I w q X := fun q => selV_cong fun i hi => by rw [hx i hi]
  have e4 : (∀ v, v < w → bt x v = true → wayV a I t v) ↔ ∀ v, v < w → bt X v = true → wayV a I t v := ⟨fun z v hv hb => z v hv ((hx v hv).trans hb), fun z v hv hb => z v hv ((hx v hv).symm.trans hb)⟩
  have e5 : ∀ m n, SN a I w x m n = SN a I w X m n := fun m n => by
    induction n with
    | zero => rfl
    | succ n ih =>
      show _ + (if m.testBit n = true then pN a I w x n else 0) = _ + (if m.testBit n = true then pN a I w X n else 0)
      rw [ih]
      unfold pN
      rw [e3]
  refine E2.mk (c_purch h hn ht x z) ?_
  intro u hu
  rw [e1] at hu
  refine m_buys (B := 0) h hm ht X (R := fun b pr => (b = -1 ∧ u = -1) ∨ ∃ m, m < 4096 ∧ b = nI m ∧ u = if z = 0 then costV a I t w x + pr else nI m) ?_
  intro cN hcN hc
  rcases hu with ⟨hu1, v0, hv0, hb0, hno⟩ | ⟨hway, m, hm4, hbits, hu⟩
  · refine Or.inl ⟨fun its _ _ ⟨zw, _⟩ => hno (zw v0 hv0 ((hx v0 hv0).symm.trans hb0)), Or.inl ⟨rfl, hu1⟩⟩
  · rcases hu with ⟨hu1, q, hq, hmq, hsel⟩ | ⟨hall, hu1⟩
    · refine Or.inl ⟨fun its hi4 hsub ⟨_, zz⟩ => ?_, Or.inl ⟨rfl, hu1⟩⟩
      have hq32 : q < 32 := by omega
      obtain ⟨hw, hT⟩ := (hbits q hq32).mp hmq
      rcases zz q hq32 ((e2 q).mp hw) with z1 | z1
      · rw [hT] at z1; cases z1
      · have := ((hc q).mp (hsub q z1)).2.2
        rw [e3] at hsel
        exact this hsel
    · have hm32 : ∀ k, m.testBit k = true → k < 32 := fun k hk => by have := num_lt hm4 hk; omega
      refine Or.inr ⟨m, hm4, fun k hk => ?_, fun its hi4 hsub => ?_, Or.inr ⟨m, hm4, rfl, by rw [hu1, e5]⟩⟩
      · have hk32 := hm32 k hk
        obtain ⟨⟨v, hv, hb, q, r1, r2, r3⟩, hT⟩ := (hbits k hk32).mp hk
        have hkg : k < g := Nat.not_le.mp fun z => by
          rw [askV_in h (by omega) z hk32] at r3; cases r3
        exact (hc k).mpr ⟨hkg, hT, by rw [← e3]; exact hall k hkg hk⟩
      · constructor
        · rintro ⟨-, zz⟩ k hk
          have hk32 := hm32 k hk
          obtain ⟨hw, hT⟩ := (hbits k hk32).mp hk
          rcases zz k hk32 ((e2 k).mp hw) with z1 | z1
          · rw [hT] at z1; cases z1
          · exact z1
        · intro zz
          refine ⟨e4.mp hway, fun k hk hw => ?_⟩
          cases hT : bt (togV (I (a + 7)) w X) k with
          | true => exact Or.inl rfl
          | false => exact Or.inr (zz k ((hbits k hk).mpr ⟨(e2 k).mpr hw, hT⟩))
end BUY3
