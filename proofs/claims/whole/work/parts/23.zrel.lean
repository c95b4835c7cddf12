/-! the relation of the two worlds -/
/-- how many texts were read -/
def TXs (x : Int32) : Prop := ∃ t, t ≤ 10 ∧ x = nI t
def WA (a : Nat) (I : IM) (W : Nat → Int32) (g w : Nat) : Prop :=
  (I a 0 = nI g ∧ W 0 = nI g) ∧ (I a 4 = nI w ∧ W 1 = nI w) ∧ (W 2 = I a 13 ∧ TXs (W 2)) ∧ W 4 = I a 16 ∧ W 5 = I a 14 ∧ W 6 = I a 15 ∧ W 7 = I a 17 ∧ W 8 = I a 18
def WB (a : Nat) (I : IM) (W : Nat → Int32) (k : Nat) : Prop :=
  (W (9 + 3 * k + 0) = I (a + 1) k ∧ W (9 + 3 * k + 1) = I (a + 2) k ∧ W (9 + 3 * k + 2) = I (a + 3) k) ∧ (∃ t, t ≤ 5 ∧ I (a + 1) k = nI t) ∧ (I (a + 1) k = 1 → ∃ o, o < k ∧ I (a + 3) k = nI o) ∧ ∃ t, t ≤ 99 ∧ I (a + 2) k = nI t
def WC (a : Nat) (I : IM) (W : Nat → Int32) (g k : Nat) : Prop :=
  (W (45 + 30 * k + 0) = I (a + 4) k ∧ W (45 + 30 * k + 1) = I (a + 5) k ∧ W (45 + 30 * k + 2) = I (a + 6) k ∧ W (45 + 30 * k + 3) = I (a + 7) k ∧ W (45 + 30 * k + 4) = I (a + 8) k ∧ W (45 + 30 * k + 5) = if bt (I a 12) k then 1 else 0) ∧
  (∀ q, q < 12 → W (45 + 30 * k + (18 + q)) = I (a + 19 + k) q) ∧ (∀ q, q < g → bt (I (a + 7) k) q = true → W (45 + 30 * k + (6 + q)) = I (a + 10 + k) q) ∧
  (∃ n, n ≤ g ∧ I (a + 4) k = nI n) ∧ (∀ q, g ≤ q → q < 32 → bt (I (a + 7) k) q = false) ∧ (∀ q, q < 32 → bt (I (a + 8) k) q = true → bt (I (a + 7) k) q = true) ∧
  (∀ q, q < 12 → I (a + 19 + k) q = -1 ∨ ∃ n, n ≤ 99 ∧ I (a + 19 + k) q = nI n) ∧ ∃ n, n ≤ 99 ∧ I (a + 6) k = nI n
def WE (a : Nat) (I : IM) (k : Nat) : Prop :=
  I (a + 4) k = 0 ∧ I (a + 7) k = 0 ∧ I (a + 8) k = 0 ∧ bt (I a 12) k = false ∧ ∀ q, q < 12 → I (a + 19 + k) q = -1
def WR (a : Nat) (I : IM) (W : Nat → Int32) (g w : Nat) : Prop :=
  (g ≤ 12 ∧ w ≤ 8) ∧ WA a I W g w ∧ (∀ k, k < g → WB a I W k) ∧ (∀ k, k < w → WC a I W g k) ∧ ∀ k, w ≤ k → k < 8 → WE a I k
section WRs
variable {a g w k : Nat} {I I' : IM} {W W' : Nat → Int32} {N K : NM} {J : IM}
theorem WR.g12 (h : WR a I W g w) : g ≤ 12 := h.1.1
theorem WR.w8 (h : WR a I W g w) : w ≤ 8 := h.1.2
theorem WR.ga (h : WR a I W g w) : I a 0 = nI g := h.2.1.1.1
theorem WR.gb (h : WR a I W g w) : W 0 = nI g := h.2.1.1.2
theorem WR.wa (h : WR a I W g w) : I a 4 = nI w := h.2.1.2.1.1
theorem WR.wb (h : WR a I W g w) : W 1 = nI w := h.2.1.2.1.2
theorem WR.ob (h : WR a I W g w) (hk : k < g) : WB a I W k := h.2.2.1 k hk
theorem WR.oc (h : WR a I W g w) (hk : k < w) : WC a I W g k := h.2.2.2.1 k hk
theorem WR.oe (h : WR a I W g w) (hk : w ≤ k) (h8 : k < 8) : WE a I k := h.2.2.2.2 k hk h8
theorem WB.congr (h : WB a I W k) (e1 : I' (a + 1) k = I (a + 1) k) (e2 : I' (a + 2) k = I (a + 2) k) (e3 : I' (a + 3) k = I (a + 3) k) (e : ∀ j, j < 3 → W' (9 + 3 * k + j) = W (9 + 3 * k + j)) : WB a I' W' k := by
  unfold WB at h ⊢
  rw [e1, e2, e3, e 0 (by omega), e 1 (by omega), e 2 (by omega)]
  exact h
theorem WC.congr (h : WC a I W g k) (e4 : ∀ j, 4 ≤ j → j ≤ 8 → I' (a + j) k = I (a + j) k) (e12 : I' a 12 = I a 12) (e10 : ∀ q, q < g → I' (a + 10 + k) q = I (a + 10 + k) q) (e19 : ∀ q, q < 12 → I' (a + 19 + k) q = I (a + 19 + k) q) (hg : g ≤ 12)
    (e : ∀ j, j < 30 → W' (45 + 30 * k + j) = W (45 + 30 * k + j)) : WC a I' W' g k := by
  obtain ⟨⟨h1, h2, h3, h4, h5, h6⟩, h7, h8, h9, h10, h11, h12, h13⟩ := h
  unfold WC
  rw [e4 4 (by omega) (by omega), e4 5 (by omega) (by omega), e4 6 (by omega) (by omega), e4 7 (by omega) (by omega), e4 8 (by omega) (by omega), e12, e 0 (by omega), e 1 (by omega), e 2 (by omega), e 3 (by omega), e 4 (by omega), e 5 (by omega)]
  refine ⟨⟨h1, h2, h3, h4, h5, h6⟩, fun q hq => ?_, fun q hq hb => ?_, h9, h10, h11, fun q hq => ?_, h13⟩
  · rw [e _ (by omega), e19 q hq]; exact h7 q hq
  · rw [e _ (by omega), e10 q hq]; exact h8 q hq hb
  · rw [e19 q hq]; exact h12 q hq
theorem WE.congr (h : WE a I k) (e4 : ∀ j, 4 ≤ j → j ≤ 8 → I' (a + j) k = I (a + j) k) (e12 : I' a 12 = I a 12) (e19 : ∀ q, q < 12 → I' (a + 19 + k) q = I (a + 19 + k) q) : WE a I' k := by
  obtain ⟨h1, h2, h3, h4, h5⟩ := h
  unfold WE
  rw [e4 4 (by omega) (by omega), e4 7 (by omega) (by omega), e4 8 (by omega) (by omega), e12]
  exact ⟨h1, h2, h3, h4, fun q hq => by rw [e19 q hq]; exact h5 q hq⟩
/-! what is asked of both: a plain function, and that both answer it -/
theorem E1.eq {α : Type} {x : Option α} {r : α} (h : E1 x (fun u => u = r)) : x = some r := by
  obtain ⟨u, e, q⟩ := h
  rw [e, q]
theorem nat_31 {n : Nat} (h : n ≤ 100000) : n < 2 ^ 31 := by omega
def togV (f : Nat → Int32) : Nat → Int32 → Int32
  | 0, _ => 0
  | n + 1, x => togV f n x ||| if bt x n = true then f n else 0
theorem togV_cong {f f' : Nat → Int32} {x : Int32} : ∀ {n : Nat}, (∀ i, i < n → f i = f' i) → togV f n x = togV f' n x
  | 0, _ => rfl
  | n + 1, h => by
    show _ ||| _ = _ ||| _
    rw [togV_cong (fun i hi => h i (by omega)), h n (by omega)]
theorem c_tog (h : WR a I W g w) (hn : WN N a) (x : Int32) : F_World_together a x (I, N) = some (togV (I (a + 7)) w x) := by
  have h8 := h.w8
  unfold F_World_together
  refine E1.eq (lq1 (fun i s => s = (togV (I (a + 7)) i x, nI i)) _ w (lim_lt (by omega)) (Nat.zero_le _) rfl ?_ ?_)
  · rintro i s hi rfl
    have hi8 : i < 8 := by omega
    simp only [Option.bind_some, reduceIte, if_true, if_false, Bool.false_eq_true, ck_tt, v_qS, wa_k hn, wa_f hn, wa_s hn, wa_r1 hn, wa_r2 hn, wa_r3 hn, wa_r5 hn, wa_r6 hn, wa_r7 hn, wa_r8 hn, wa_r9 hn, wa_r10 hn, wa_r11 hn, wa_w4 hn hi8, wa_w5 hn hi8, wa_w6 hn hi8, wa_w7 hn hi8, wa_w8 hn hi8, wa_t4 hn hi8, wa_t5 hn hi8, wa_t6 hn hi8, wa_t7 hn hi8, wa_t8 hn hi8, wa_q9 hn hi8, wa_q18 hn hi8, h.wa, cm_leF hi (nat_31 (n := w) (by omega)), bt_iff]
    cases hb : bt x i
    · simp only [Option.bind_some, reduceIte, if_true, if_false, Bool.false_eq_true, ck_tt]
      exact E1.ok (Prod.ext (by show _ = _ ||| _; rw [hb]; rfl) (nI_1 i))
    · simp only [Option.bind_some, reduceIte, if_true, if_false, Bool.false_eq_true, ck_tt]
      exact E1.ok (Prod.ext (by show _ = _ ||| _; rw [hb]; rfl) (nI_1 i))
  · rintro s rfl
    simp only [Option.bind_some, reduceIte, if_true, if_false, Bool.false_eq_true, ck_tt, v_qS, wa_k hn, wa_f hn, wa_s hn, wa_r1 hn, wa_r2 hn, wa_r3 hn, wa_r5 hn, wa_r6 hn, wa_r7 hn, wa_r8 hn, wa_r9 hn, wa_r10 hn, wa_r11 hn, h.wa, cm_leT (Nat.le_refl w) (nat_31 (n := w) (by omega))]
    exact E1.ok rfl
theorem m_allOf (h : WR a I W g w) (hm : MN K) (x : Int32) {k : Nat} {y : Int32} (hy : y = nI k) (hk : k < 30) : F_Mo_allOf 1528 x y (rowI J 1529 W, K) = some (togV (fun i => W (45 + 30 * i + k)) w x) := by
  have h8 := h.w8
  subst hy
  unfold F_Mo_allOf
  refine E1.eq (lq1 (fun i s => s = (togV (fun i => W (45 + 30 * i + k)) i x, nI i)) _ w (lim_lt (by omega)) (Nat.zero_le _) rfl ?_ ?_)
  · rintro i s hi rfl
    have hi8 : i < 8 := by omega
    simp only [Option.bind_some, reduceIte, if_true, if_false, Bool.false_eq_true, ck_tt, v_qS, mo_k hm, mw_f hm, mo_r1 hm, mw_gates hm, mw_walkers hm, mw_ofk hm hi8 hk, h.wb, cm_leF hi (nat_31 (n := w) (by omega)), mo_has rfl]
    cases hb : bt x i
    · simp only [Option.bind_some, reduceIte, if_true, if_false, Bool.false_eq_true, ck_tt, i32_00]
      exact E1.ok (Prod.ext (by show _ = _ ||| _; rw [hb]; rfl) (nI_1 i))
    · simp only [Option.bind_some, reduceIte, if_true, if_false, Bool.false_eq_true, ck_tt, i32_10]
      exact E1.ok (Prod.ext (by show _ = _ ||| _; rw [hb]; rfl) (nI_1 i))
  · rintro s rfl
    simp only [Option.bind_some, reduceIte, if_true, if_false, Bool.false_eq_true, ck_tt, v_qS, mo_k hm, mw_f hm, mo_r1 hm, mw_gates hm, mw_walkers hm, h.wb, cm_leT (Nat.le_refl w) (nat_31 (n := w) (by omega))]
    exact E1.ok rfl
theorem m_tog (h : WR a I W g w) (hm : MN K) (x : Int32) : F_Mo_allOf 1528 x 3 (rowI J 1529 W, K) = some (togV (I (a + 7)) w x) := by
  rw [m_allOf h hm x (y := 3) (k := 3) rfl (by omega)]
  exact congrArg some (togV_cong fun i hi => (h.oc hi).1.2.2.2.1)
theorem m_togS (h : WR a I W g w) (hm : MN K) (x : Int32) : F_Mo_allOf 1528 x 4 (rowI J 1529 W, K) = some (togV (I (a + 8)) w x) := by
  rw [m_allOf h hm x (y := 4) (k := 4) rfl (by omega)]
  exact congrArg some (togV_cong fun i hi => (h.oc hi).1.2.2.2.2.1)
def askV (a : Nat) (I : IM) (g q : Nat) : Int32 := if I (a + 1) q = 1 then ((1 : Int32) <<< (nI q &&& 31)) ||| ((1 : Int32) <<< (I (a + 3) q &&& 31)) else if I (a + 1) q = 2 ∧ q + 1 < g then (1 : Int32) <<< (nI (q + 1) &&& 31) else (1 : Int32) <<< (nI q &&& 31)
theorem c_ask (h : WR a I W g w) (hn : WN N a) {q : Nat} (hq : q < g) : F_World_asked a (nI q) (I, N) = some (askV a I g q) := by
  have h12 := h.g12
  have hq12 : q < 12 := by omega
  unfold F_World_asked askV
  simp only [Option.bind_some, reduceIte, if_true, if_false, Bool.false_eq_true, ck_tt, v_qS, wa_k hn, wa_f hn, wa_s hn, wa_r1 hn, wa_r2 hn, wa_r3 hn, wa_r5 hn, wa_r6 hn, wa_r7 hn, wa_r8 hn, wa_r9 hn, wa_r10 hn, wa_r11 hn, wa_g1 hn hq12, wa_g2 hn hq12, wa_g3 hn hq12, wa_h1 hn hq12, wa_h2 hn hq12, wa_h3 hn hq12, h.ga, nI_1, nI_leI (nat_31 (n := g) (by omega)) (nat_31 (n := q + 1) (by omega))]
  by_cases e1 : I (a + 1) q = 1
  · rw [if_pos e1, if_pos e1]
  · rw [if_neg e1, if_neg e1]
    by_cases e2 : I (a + 1) q = 2
    · rw [if_pos e2]
      by_cases e3 : q + 1 < g
      · rw [if_neg (Nat.not_le.mpr e3), if_pos ⟨e2, e3⟩]; rfl
      · rw [if_pos (Nat.not_lt.mp e3), if_neg (fun z => e3 z.2)]; rfl
    · rw [if_neg e2, if_neg (fun z => e2 z.1)]; rfl
theorem m_ask (h : WR a I W g w) (hm : MN K) {q : Nat} (hq : q < g) : F_Mo_asks 1528 (nI q) (rowI J 1529 W, K) = some (askV a I g q) := by
  have h12 := h.g12
  have hq12 : q < 12 := by omega
  obtain ⟨⟨b1, b2, b3⟩, -⟩ := h.ob hq
  unfold F_Mo_asks askV
  simp only [Option.bind_some, reduceIte, if_true, if_false, Bool.false_eq_true, ck_tt, v_qS, mo_k hm, mw_f hm, mo_r1 hm, mw_gates hm, mw_walkers hm, mw_og0 hm hq12, mw_og1 hm hq12, mw_og2 hm hq12, h.gb, b1, b3, nI_1, show nI g - 1 = nI (g - 1) from pk_sub (b := 1) (by omega), nI_leI (nat_31 (n := g - 1) (by omega)) (nat_31 (n := q) (by omega))]
  by_cases e1 : I (a + 1) q = 1
  · rw [if_pos e1, if_pos e1]
  · rw [if_neg e1, if_neg e1]
    by_cases e2 : I (a + 1) q = 2
    · rw [if_pos e2]
      by_cases e3 : q + 1 < g
      · rw [if_neg (by omega), if_pos ⟨e2, e3⟩]; rfl
      · rw [if_pos (by omega), if_neg (fun z => e3 z.2)]; rfl
    · rw [if_neg e2, if_neg (fun z => e2 z.1)]; rfl
theorem askV_in (h : WR a I W g w) {q j : Nat} (hq : q < g) (hj : g ≤ j) (h2 : j < 32) : bt (askV a I g q) j = false := by
  have h12 := h.g12
  unfold askV
  by_cases e1 : I (a + 1) q = 1
  · rw [if_pos e1]
    obtain ⟨o, ho, e⟩ := (h.ob hq).2.2.1 e1
    rw [e, bt_or h2, bt_shl (by omega) h2, bt_shl (by omega) h2, decide_eq_false (by omega), decide_eq_false (by omega)]
    rfl
  · rw [if_neg e1]
    by_cases e2 : I (a + 1) q = 2 ∧ q + 1 < g
    · rw [if_pos e2, bt_shl (by omega) h2, decide_eq_false (by omega)]
    · rw [if_neg e2, bt_shl (by omega) h2, decide_eq_false (by omega)]
def shutV (a : Nat) (I : IM) (v q : Nat) : Bool := decide (I (a + 1) q = 4) && decide (I (a + 3) q = nI v)
theorem c_shut (h : WR a I W g w) (hn : WN N a) {v q : Nat} (hq : q < g) : F_World_isClosedTo a (nI v) (nI q) (I, N) = some (if shutV a I v q then 1 else 0) := by
  have h12 := h.g12
  have hq12 : q < 12 := by omega
  unfold F_World_isClosedTo shutV
  simp only [Option.bind_some, reduceIte, if_true, if_false, Bool.false_eq_true, ck_tt, v_qS, wa_k hn, wa_f hn, wa_s hn, wa_r1 hn, wa_r2 hn, wa_r3 hn, wa_r5 hn, wa_r6 hn, wa_r7 hn, wa_r8 hn, wa_r9 hn, wa_r10 hn, wa_r11 hn, wa_g1 hn hq12, wa_g2 hn hq12, wa_g3 hn hq12, wa_h1 hn hq12, wa_h2 hn hq12, wa_h3 hn hq12]
  by_cases e1 : I (a + 1) q = 4
  · by_cases e2 : I (a + 3) q = nI v
    · rw [if_pos e1, if_pos e2]; simp [e1, e2]
    · rw [if_pos e1, if_neg e2]; simp [e2]
  · rw [if_neg e1]; simp [e1]
theorem m_shut (h : WR a I W g w) (hm : MN K) {v q : Nat} (hq : q < g) : F_Mo_isShut 1528 (nI q) (nI v) (rowI J 1529 W, K) = some (if shutV a I v q then 1 else 0) := by
  have h12 := h.g12
  have hq12 : q < 12 := by omega
  obtain ⟨⟨b1, b2, b3⟩, -⟩ := h.ob hq
  unfold F_Mo_isShut shutV
  simp only [Option.bind_some, reduceIte, if_true, if_false, Bool.false_eq_true, ck_tt, v_qS, mo_k hm, mw_f hm, mo_r1 hm, mw_gates hm, mw_walkers hm, mw_og0 hm hq12, mw_og1 hm hq12, mw_og2 hm hq12, b1, b3]
  by_cases e1 : I (a + 1) q = 4
  · by_cases e2 : I (a + 3) q = nI v
    · rw [if_pos e1, if_pos e2]; simp [e1, e2]
    · rw [if_pos e1, if_neg e2]; simp [e2]
  · rw [if_neg e1]; simp [e1]
def opV (a : Nat) (I : IM) (g q : Nat) (x : Int32) : Bool := decide ((askV a I g q &&& (x ^^^ (-1 : Int32))) = 0)
theorem m_opens (h : WR a I W g w) (hm : MN K) {q : Nat} (hq : q < g) (x : Int32) : F_Mo_opens 1528 (nI q) x (rowI J 1529 W, K) = some (if opV a I g q x then 1 else 0) := by
  unfold F_Mo_opens opV
  simp only [Option.bind_some, reduceIte, if_true, if_false, Bool.false_eq_true, ck_tt, v_qS, mo_k hm, mw_f hm, mo_r1 hm, mw_gates hm, mw_walkers hm, m_ask h hm hq]
  by_cases e : (askV a I g q &&& (x ^^^ (-1 : Int32))) = 0
  · rw [if_pos e, decide_eq_true e]; rfl
  · rw [if_neg e, decide_eq_false e]; rfl
/-- may pass, by what one has (s = 0) or by what is true -/
def mayV (a : Nat) (I : IM) (g v q : Nat) (s : Bool) : Bool := !shutV a I v q && opV a I g q (if s && decide (I (a + 1) q ≠ 5) then I (a + 8) v else I (a + 7) v)
theorem c_may (h : WR a I W g w) (hn : WN N a) {v q : Nat} (hv : v < w) (hq : q < g) {x : Int32} (s : Bool) (hx : x = 0 ↔ s = false) : F_World_opensTo a (nI v) (nI q) x (I, N) = some (if mayV a I g v q s then 1 else 0) := by
  have h12 := h.g12
  have h8 := h.w8
  have hq12 : q < 12 := by omega
  have hv8 : v < 8 := by omega
  unfold F_World_opensTo mayV opV
  simp only [Option.bind_some, reduceIte, if_true, if_false, Bool.false_eq_true, ck_tt, v_qS, wa_k hn, wa_f hn, wa_s hn, wa_r1 hn, wa_r2 hn, wa_r3 hn, wa_r5 hn, wa_r6 hn, wa_r7 hn, wa_r8 hn, wa_r9 hn, wa_r10 hn, wa_r11 hn, wa_g1 hn hq12, wa_g2 hn hq12, wa_g3 hn hq12, wa_h1 hn hq12, wa_h2 hn hq12, wa_h3 hn hq12, wa_w4 hn hv8, wa_w5 hn hv8, wa_w6 hn hv8, wa_w7 hn hv8, wa_w8 hn hv8, wa_t4 hn hv8, wa_t5 hn hv8, wa_t6 hn hv8, wa_t7 hn hv8, wa_t8 hn hv8, wa_q9 hn hv8, wa_q18 hn hv8, c_shut h hn hq, c_ask h hn hq]
  have tail : ∀ y : Int32, (((if (if shutV a I v q then (1 : Int32) else 0) = 0 then (if (askV a I g q &&& (y ^^^ (-1 : Int32))) = 0 then (some true) else (some false)) else (some false) : Option Bool).bind fun b14 => if b14 = true then (some (1 : Int32)) else (some (0 : Int32)))) = some (if (!shutV a I v q && decide ((askV a I g q &&& (y ^^^ (-1 : Int32))) = 0)) = true then 1 else 0) := by
    intro y
    cases shutV a I v q
    · by_cases e : (askV a I g q &&& (y ^^^ (-1 : Int32))) = 0
      · rw [if_pos e, decide_eq_true e]; rfl
      · rw [if_neg e, decide_eq_false e]; rfl
    · rfl
  cases s with
  | false =>
    rw [if_pos (hx.mpr rfl)]
    exact tail _
  | true =>
    rw [if_neg (fun z => by cases hx.mp z)]
    by_cases e : I (a + 1) q = 5
    · have e' : decide (I (a + 1) q ≠ 5) = false := decide_eq_false (fun z => z e)
      rw [if_pos e, e']
      exact tail _
    · have e' : decide (I (a + 1) q ≠ 5) = true := decide_eq_true e
      rw [if_neg e, e']
      exact tail _
theorem m_may (h : WR a I W g w) (hm : MN K) {v q : Nat} (hv : v < w) (hq : q < g) {x : Int32} (s : Bool) (hx : x = 0 ↔ s = false) : F_Mo_mayPass 1528 (nI v) (nI q) x (rowI J 1529 W, K) = some (if mayV a I g v q s then 1 else 0) := by
  have h12 := h.g12
  have h8 := h.w8
  have hq12 : q < 12 := by omega
  have hv8 : v < 8 := by omega
  obtain ⟨⟨b1, b2, b3⟩, -⟩ := h.ob hq
  have c3 := (h.oc hv).1.2.2.2.1
  have c4 := (h.oc hv).1.2.2.2.2.1
  unfold F_Mo_mayPass mayV
  simp only [Option.bind_some, reduceIte, if_true, if_false, Bool.false_eq_true, ck_tt, v_qS, mo_k hm, mw_f hm, mo_r1 hm, mw_gates hm, mw_walkers hm, mw_og0 hm hq12, mw_og1 hm hq12, mw_og2 hm hq12, m_shut h hm hq, b1]
  cases hs : shutV a I v q with
  | true => simp [bdS]
  | false =>
    rw [if_neg (show ¬ false = true by decide), if_pos (show (0 : Int32) = 0 from rfl)]
    cases s with
    | false =>
      rw [if_pos (hx.mpr rfl)]
      simp only [Option.bind_some, reduceIte, if_true, if_false, Bool.false_eq_true, ck_tt, mw_of0 hm hv8, mw_of1 hm hv8, mw_of2 hm hv8, mw_of3 hm hv8, mw_of4 hm hv8, mw_of5 hm hv8, mw_st0 hm hv8, mw_st1 hm hv8, mw_st2 hm hv8, mw_st3 hm hv8, mw_st4 hm hv8, mw_st5 hm hv8, m_opens h hm hq, c3, Bool.false_and, Bool.not_false, Bool.true_and]
      cases opV a I g q (I (a + 7) v) <;> rfl
    | true =>
      rw [if_neg (fun z => by cases hx.mp z)]
      by_cases e : I (a + 1) q = 5
      · have e' : decide (I (a + 1) q ≠ 5) = false := decide_eq_false (fun z => z e)
        rw [if_pos e, e']
        simp only [Option.bind_some, reduceIte, if_true, if_false, Bool.false_eq_true, ck_tt, mw_of0 hm hv8, mw_of1 hm hv8, mw_of2 hm hv8, mw_of3 hm hv8, mw_of4 hm hv8, mw_of5 hm hv8, mw_st0 hm hv8, mw_st1 hm hv8, mw_st2 hm hv8, mw_st3 hm hv8, mw_st4 hm hv8, mw_st5 hm hv8, m_opens h hm hq, c3, Bool.and_false, Bool.not_false, Bool.true_and]
        cases opV a I g q (I (a + 7) v) <;> rfl
      · have e' : decide (I (a + 1) q ≠ 5) = true := decide_eq_true e
        rw [if_neg e, e']
        simp only [Option.bind_some, reduceIte, if_true, if_false, Bool.false_eq_true, ck_tt, mw_of0 hm hv8, mw_of1 hm hv8, mw_of2 hm hv8, mw_of3 hm hv8, mw_of4 hm hv8, mw_of5 hm hv8, mw_st0 hm hv8, mw_st1 hm hv8, mw_st2 hm hv8, mw_st3 hm hv8, mw_st4 hm hv8, mw_st5 hm hv8, m_opens h hm hq, c4, Bool.and_true, Bool.not_false, Bool.true_and]
        cases opV a I g q (I (a + 8) v) <;> rfl
end WRs
