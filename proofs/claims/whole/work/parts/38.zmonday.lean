/-! Monday's change: the gates that spoil most, one by one, against all sets -/
def cnV (p : Nat → Bool) : Nat → Nat
  | 0 => 0
  | n + 1 => cnV p n + if p n = true then 1 else 0
theorem cnV_le (p : Nat → Bool) : ∀ n, cnV p n ≤ n
  | 0 => Nat.le_refl _
  | n + 1 => by
    have := cnV_le p n
    show _ + _ ≤ _
    by_cases e : p n = true
    · rw [if_pos e]; omega
    · rw [if_neg e]; omega
/-- sums of whole numbers -/
def siV (f : Nat → Int) : Nat → Int
  | 0 => 0
  | n + 1 => siV f n + f n
theorem siV_le {f f' : Nat → Int} : ∀ {n : Nat}, (∀ k, k < n → f k ≤ f' k) → siV f n ≤ siV f' n
  | 0, _ => Int.le_refl _
  | n + 1, h => by
    have := siV_le (n := n) fun k hk => h k (by omega)
    have := h n (by omega)
    show _ + _ ≤ _ + _
    omega
theorem siV_eq {f f' : Nat → Int} : ∀ {n : Nat}, (∀ k, k < n → f k ≤ f' k) → siV f n = siV f' n → ∀ k, k < n → f k = f' k
  | 0, _, _, k, hk => absurd hk (Nat.not_lt_zero _)
  | n + 1, h, e, k, hk => by
    have h1 := siV_le (n := n) fun k hk => h k (by omega)
    have h2 := h n (by omega)
    have e : siV f n + f n = siV f' n + f' n := e
    by_cases z : k = n
    · subst z; omega
    · exact siV_eq (n := n) (fun k hk => h k (by omega)) (by omega) k (by omega)
theorem siV_add (f f' : Nat → Int) : ∀ n, siV (fun k => f k + f' k) n = siV f n + siV f' n
  | 0 => rfl
  | n + 1 => by
    have := siV_add f f' n
    show siV (fun k => f k + f' k) n + (f n + f' n) = siV f n + f n + (siV f' n + f' n)
    omega
theorem siV_mul (c : Int) (f : Nat → Int) : ∀ n, siV (fun k => c * f k) n = c * siV f n
  | 0 => (Int.mul_zero c).symm
  | n + 1 => by
    have := siV_mul c f n
    show _ + _ = c * (_ + _)
    rw [this, Int.mul_add]
theorem siV_cong {f f' : Nat → Int} : ∀ {n : Nat}, (∀ k, k < n → f k = f' k) → siV f n = siV f' n
  | 0, _ => rfl
  | n + 1, h => by
    show _ + _ = _ + _
    rw [siV_cong (n := n) (fun k hk => h k (by omega)), h n (by omega)]
def b2 (b : Bool) : Int := if b = true then 1 else 0
theorem b2_01 (b : Bool) : (b = true ∧ b2 b = 1) ∨ (b = false ∧ b2 b = 0) := by cases b <;> simp [b2]
theorem pc_sum (s : Nat) : (pcN s : Int) = siV (fun k => b2 (s.testBit k)) 12 := by
  have h : ∀ b : Bool, (b.toNat : Int) = b2 b := fun b => by cases b <;> rfl
  unfold pcN
  simp only [siV, Int.natCast_add, h]
  omega
theorem num_sum (s : Nat) : ∀ n, ((s % 2 ^ n : Nat) : Int) = siV (fun k => b2 (s.testBit k) * (2 ^ k : Nat)) n
  | 0 => by simp [siV, Nat.mod_one]
  | n + 1 => by
    have ih := num_sum s n
    show _ = siV (fun k => b2 (s.testBit k) * (2 ^ k : Nat)) n + b2 (s.testBit n) * (2 ^ n : Nat)
    rw [← ih, Nat.mod_pow_succ, ← Nat.toNat_testBit]
    rcases b2_01 (s.testBit n) with ⟨e1, e2⟩ | ⟨e1, e2⟩
    · rw [e2, e1]; simp
    · rw [e2, e1]; simp
/-- the sellers that are left, a set of gates being forgotten -/
def lfV (sn : Nat → Nat) (s : Nat) (n : Nat) : Int := siV (fun k => (1 - b2 (s.testBit k)) * (sn k : Int)) n
/-- a set by a bound: the gates with more than c sellers, and of those with c the first -/
def thr (sn : Nat → Nat) (g c j G : Nat) : Prop := ∀ k, k < 12 → (G.testBit k = true ↔ k < g ∧ (c < sn k ∨ (sn k = c ∧ k < j)))
theorem thr_best {sn : Nat → Nat} {g c j G s : Nat} (ht : thr sn g c j G) (hs : ∀ k, g ≤ k → k < 12 → s.testBit k = false) (hpc : pcN s = pcN G) (hG4 : G < 4096) (hs4 : s < 4096) : lfV sn G 12 ≤ lfV sn s 12 ∧ (s < G → lfV sn G 12 < lfV sn s 12) := by
  have hp : siV (fun k => b2 (s.testBit k)) 12 = siV (fun k => b2 (G.testBit k)) 12 := by rw [← pc_sum, ← pc_sum, hpc]
  have split : ∀ x : Nat, lfV sn x 12 = siV (fun k => (sn k : Int)) 12 + -1 * (siV (fun k => b2 (x.testBit k) * ((sn k : Int) - c)) 12 + c * siV (fun k => b2 (x.testBit k)) 12) := by
    intro x
    unfold lfV
    rw [← siV_mul, ← siV_add, ← siV_mul, ← siV_add]
    refine siV_cong fun k _ => ?_
    rcases b2_01 (x.testBit k) with ⟨-, e⟩ | ⟨-, e⟩ <;> rw [e] <;> omega
  have pw : ∀ k, k < 12 → b2 (s.testBit k) * ((sn k : Int) - c) ≤ b2 (G.testBit k) * ((sn k : Int) - c) := by
    intro k hk
    have hk2 := ht k hk
    rcases b2_01 (s.testBit k) with ⟨e1, e2⟩ | ⟨e1, e2⟩ <;> rcases b2_01 (G.testBit k) with ⟨e3, e4⟩ | ⟨e3, e4⟩ <;> rw [e2, e4]
    · omega
    · have hkg : k < g := Nat.not_le.mp fun z => by rw [hs k z hk] at e1; cases e1
      have : ¬ (c < sn k) := fun z => by
        rw [hk2.mpr ⟨hkg, Or.inl z⟩] at e3; cases e3
      omega
    · have := (hk2.mp e3).2
      omega
    · omega
  have hle := siV_le pw
  constructor
  · rw [split G, split s, hp]
    omega
  · intro hlt
    refine Int.lt_iff_le_and_ne.mpr ⟨by rw [split G, split s, hp]; omega, fun e => ?_⟩
    rw [split G, split s, hp] at e
    have heq := siV_eq pw (by omega)
    -- equal: both differ at the bound alone, where the first are the least
    have hnum : ∀ x : Nat, x < 4096 → (x : Int) = siV (fun k => b2 (x.testBit k) * (2 ^ k : Nat)) 12 := fun x hx => by
      rw [← num_sum, e4096, Nat.mod_eq_of_lt hx]
    have split2 : ∀ x : Nat, siV (fun k => b2 (x.testBit k) * (2 ^ k : Nat)) 12 = siV (fun k => b2 (x.testBit k) * ((2 ^ k : Nat) - (2 ^ j : Nat) : Int)) 12 + ((2 ^ j : Nat) : Int) * siV (fun k => b2 (x.testBit k)) 12 := by
      intro x
      rw [← siV_mul, ← siV_add]
      refine siV_cong fun k _ => ?_
      rcases b2_01 (x.testBit k) with ⟨-, e⟩ | ⟨-, e⟩ <;> rw [e] <;> omega
    have pw2 : ∀ k, k < 12 → b2 (G.testBit k) * ((2 ^ k : Nat) - (2 ^ j : Nat) : Int) ≤ b2 (s.testBit k) * ((2 ^ k : Nat) - (2 ^ j : Nat) : Int) := by
      intro k hk
      have hk2 := ht k hk
      have h0 := heq k hk
      rcases b2_01 (s.testBit k) with ⟨e1, e2⟩ | ⟨e1, e2⟩ <;> rcases b2_01 (G.testBit k) with ⟨e3, e4⟩ | ⟨e3, e4⟩ <;> rw [e2, e4] <;> rw [e2, e4] at h0
      · omega
      · have hkg : k < g := Nat.not_le.mp fun z => by rw [hs k z hk] at e1; cases e1
        have hjk : j ≤ k := Nat.not_lt.mp fun z => by
          rw [hk2.mpr ⟨hkg, Or.inr ⟨by omega, z⟩⟩] at e3; cases e3
        have := Nat.pow_le_pow_right (n := 2) (by omega) hjk
        omega
      · have hkj : k < j := by
          have := (hk2.mp e3).2
          omega
        have := Nat.pow_le_pow_right (n := 2) (by omega) (Nat.le_of_lt hkj)
        omega
      · omega
    have := siV_le pw2
    have hG := hnum G hG4
    have hS := hnum s hs4
    rw [split2] at hG hS
    rw [hp] at hS
    omega
section MON
variable {a g w k v q p wt t : Nat} {I I' I2 : IM} {W W' : Nat → Int32} {N K : NM} {J : IM} {M M' : Mem} {P : List lnT}
def snV (a : Nat) (I : IM) (w q : Nat) : Nat := cnV (fun v => slB a I v q) w
theorem c_sat (h : WR a I W g w) (hn : WN N a) (hq : q < 12) : F_World_sellersAt a (nI q) (I, N) = some (nI (snV a I w q)) := by
  have h8 := h.w8
  unfold F_World_sellersAt
  refine E1.eq (lq1 (fun i s => s = (nI (cnV (fun v => slB a I v q) i), nI i)) _ w (lim_lt (by omega)) (Nat.zero_le _) rfl ?_ ?_)
  · rintro i s hi rfl
    simp only [Option.bind_some, reduceIte, if_true, if_false, Bool.false_eq_true, ck_tt, v_qS, wa_k hn, wa_f hn, wa_s hn, wa_r1 hn, wa_r2 hn, wa_r3 hn, wa_r5 hn, wa_r6 hn, wa_r7 hn, wa_r8 hn, wa_r9 hn, wa_r10 hn, wa_r11 hn, h.wa, cm_leF hi (nat_31 (n := w) (by omega)), c_sells h hn hi hq]
    cases hb : slB a I i q
    · simp only [Option.bind_some, reduceIte, if_true, if_false, Bool.false_eq_true, ck_tt, i32_00]
      refine E1.ok (Prod.ext ?_ (nI_1 i))
      show _ = nI (_ + if slB a I i q = true then 1 else 0)
      rw [hb, if_neg (by decide), Nat.add_zero, Int32.add_zero]
    · simp only [Option.bind_some, reduceIte, if_true, if_false, Bool.false_eq_true, ck_tt, i32_10]
      refine E1.ok (Prod.ext ?_ (nI_1 i))
      show _ = nI (_ + if slB a I i q = true then 1 else 0)
      rw [hb, if_pos rfl, nI_1]
  · rintro s rfl
    simp only [Option.bind_some, reduceIte, if_true, if_false, Bool.false_eq_true, ck_tt, v_qS, wa_k hn, wa_f hn, wa_s hn, wa_r1 hn, wa_r2 hn, wa_r3 hn, wa_r5 hn, wa_r6 hn, wa_r7 hn, wa_r8 hn, wa_r9 hn, wa_r10 hn, wa_r11 hn, h.wa, cm_leT (Nat.le_refl w) (nat_31 (n := w) (by omega))]
    exact E1.ok rfl
/-- the best so far -/
def msS (a : Nat) (I : IM) (w : Nat) : Option Nat → Int32
  | none => -1
  | some q => nI (snV a I w q)
theorem pc_one (s : Nat) {q : Nat} (hq : q < 12) (h : s.testBit q = false) : pcN (s ||| 2 ^ q) = pcN s + 1 := by
  have e : ∀ k, (s ||| 2 ^ q).testBit k = (s.testBit k || decide (q = k)) := fun k => by rw [Nat.testBit_or, Nat.testBit_two_pow]
  have : q = 0 ∨ q = 1 ∨ q = 2 ∨ q = 3 ∨ q = 4 ∨ q = 5 ∨ q = 6 ∨ q = 7 ∨ q = 8 ∨ q = 9 ∨ q = 10 ∨ q = 11 := by omega
  unfold pcN
  simp only [e]
  rcases this with rfl | rfl | rfl | rfl | rfl | rfl | rfl | rfl | rfl | rfl | rfl | rfl
  all_goals simp (decide := true) only [h, Bool.or_false, Bool.false_or, decide_true, decide_false]
  all_goals simp only [Bool.toNat_true, Bool.toNat_false]
  all_goals omega
theorem c_worst (h : WR a I W g w) (hn : WN N a) {n : Nat} (hng : n ≤ g) : E1 (F_Plans_worstChange a (nI n) (I, N)) (fun u => ∃ G c j, u = nI G ∧ G < 4096 ∧ pcN G = n ∧ thr (snV a I w) g c j G) := by
  have h8 := h.w8
  have h12 := h.g12
  have hsn : ∀ q, snV a I w q ≤ 8 := fun q => Nat.le_trans (cnV_le _ _) h8
  unfold F_Plans_worstChange
  refine lq1 (fun i s => ∃ G c j, s = (nI G, nI i) ∧ G < 4096 ∧ pcN G = i ∧ thr (snV a I w) g c j G) _ n (lim_lt (by omega)) (Nat.zero_le _) ⟨0, 100, 0, rfl, by omega, by decide, fun k hk => ⟨fun z => (by simp at z), fun z => (by have := hsn k; omega)⟩⟩ ?_ ?_
  · rintro i s hi ⟨G, c, j, rfl, hG, hpc, ht⟩
    simp only [Option.bind_some, reduceIte, if_true, if_false, Bool.false_eq_true, ck_tt, cm_leF hi (nat_31 (n := n) (by omega)), show ((12 : Int32) ≤ nI i) = False from cm_leF (b := 12) (by omega) (by omega)]
    refine E1.bind (P := fun b => ∃ q, b = nI q ∧ q < g ∧ G.testBit q = false ∧ ∀ q', q' < g → G.testBit q' = false → snV a I w q' ≤ snV a I w q ∧ (q' < q → snV a I w q' < snV a I w q)) ?_ ?_
    · refine lq1 (fun k s => ∃ b : Option Nat, s = (enc b, msS a I w b, nI k) ∧ (b = none → ∀ q, q < k → G.testBit q = true) ∧ ∀ q, b = some q → q < k ∧ G.testBit q = false ∧ ∀ q', q' < k → G.testBit q' = false → snV a I w q' ≤ snV a I w q ∧ (q' < q → snV a I w q' < snV a I w q)) _ g (lim_lt (by omega)) (Nat.zero_le _) ⟨none, rfl, fun _ q hq => absurd hq (Nat.not_lt_zero _), fun q e => by cases e⟩ ?_ ?_
      · rintro k s hk ⟨b, rfl, hbn, hbs⟩
        have hk12 : k < 12 := by omega
        have e0 : ((nI G >>> (nI k &&& 31)) &&& (1 : Int32) = 0) = (G.testBit k = false) := by
          rw [bt_bit _ (by omega), bt_nI (by omega)]
          cases G.testBit k <;> simp
        simp only [Option.bind_some, reduceIte, if_true, if_false, Bool.false_eq_true, ck_tt, v_qS, wa_k hn, wa_f hn, wa_s hn, wa_r1 hn, wa_r2 hn, wa_r3 hn, wa_r5 hn, wa_r6 hn, wa_r7 hn, wa_r8 hn, wa_r9 hn, wa_r10 hn, wa_r11 hn, h.ga, cm_leF hk (nat_31 (n := g) (by omega)), c_sat h hn hk12, e0]
        cases hb : G.testBit k with
        | true =>
          simp only [reduceCtorEq, Option.bind_some, reduceIte, if_true, if_false, Bool.false_eq_true, ck_tt]
          refine E1.ok ⟨b, Prod.ext rfl (Prod.ext rfl (nI_1 k)), fun e q hq => ?_, fun q e => ?_⟩
          · by_cases z : q = k
            · rw [z]; exact hb
            · exact hbn e q (by omega)
          · obtain ⟨r1, r2, r3⟩ := hbs q e
            refine ⟨by omega, r2, fun q' hq' hb' => ?_⟩
            by_cases z : q' = k
            · rw [z, hb] at hb'; cases hb'
            · exact r3 q' (by omega) hb'
        | false =>
          simp only [Option.bind_some, reduceIte, if_true, if_false, Bool.false_eq_true, ck_tt]
          cases b with
          | none =>
            have hle : (nI (snV a I w k) ≤ msS a I w none) = False := eq_false fun z => by
              have z : nI (snV a I w k) ≤ (-1 : Int32) := z
              rw [Int32.le_iff_toInt_le, nI_toInt (by have := hsn k; omega), show (-1 : Int32).toInt = -1 by decide] at z
              omega
            simp only [hle, Option.bind_some, reduceIte, if_true, if_false, Bool.false_eq_true, ck_tt]
            refine E1.ok ⟨some k, Prod.ext rfl (Prod.ext rfl (nI_1 k)), fun e => (by cases e), fun q e => ?_⟩
            cases e
            refine ⟨Nat.lt_succ_self _, hb, fun q' hq' hb' => ?_⟩
            by_cases z : q' = k
            · rw [z]; exact ⟨Nat.le_refl _, fun y => absurd y (Nat.lt_irrefl _)⟩
            · rw [hbn rfl q' (by omega)] at hb'; cases hb'
          | some q0 =>
            obtain ⟨r1, r2, r3⟩ := hbs q0 rfl
            have e1 : (nI (snV a I w k) ≤ msS a I w (some q0)) = (snV a I w k ≤ snV a I w q0) := propext (nI_leI (by have := hsn k; omega) (by have := hsn q0; omega))
            simp only [e1]
            by_cases hle : snV a I w k ≤ snV a I w q0
            · simp only [hle, Option.bind_some, reduceIte, if_true, if_false, Bool.false_eq_true, ck_tt]
              refine E1.ok ⟨some q0, Prod.ext rfl (Prod.ext rfl (nI_1 k)), fun e => (by cases e), fun q e => ?_⟩
              cases e
              refine ⟨by omega, r2, fun q' hq' hb' => ?_⟩
              by_cases z : q' = k
              · rw [z]; exact ⟨hle, fun y => by omega⟩
              · exact r3 q' (by omega) hb'
            · simp only [hle, Option.bind_some, reduceIte, if_true, if_false, Bool.false_eq_true, ck_tt]
              refine E1.ok ⟨some k, Prod.ext rfl (Prod.ext rfl (nI_1 k)), fun e => (by cases e), fun q e => ?_⟩
              cases e
              refine ⟨Nat.lt_succ_self _, hb, fun q' hq' hb' => ?_⟩
              by_cases z : q' = k
              · rw [z]; exact ⟨Nat.le_refl _, fun y => absurd y (Nat.lt_irrefl _)⟩
              · have := (r3 q' (by omega) hb').1
                exact ⟨by omega, fun _ => by omega⟩
      · rintro s ⟨b, rfl, hbn, hbs⟩
        simp only [Option.bind_some, reduceIte, if_true, if_false, Bool.false_eq_true, ck_tt, v_qS, wa_k hn, wa_f hn, wa_s hn, wa_r1 hn, wa_r2 hn, wa_r3 hn, wa_r5 hn, wa_r6 hn, wa_r7 hn, wa_r8 hn, wa_r9 hn, wa_r10 hn, wa_r11 hn, h.ga, cm_leT (Nat.le_refl g) (nat_31 (n := g) (by omega))]
        cases b with
        | none =>
          exfalso
          have h1 : siV (fun k => b2 (decide (k < g))) 12 ≤ siV (fun k => b2 (G.testBit k)) 12 := siV_le fun k hk => by
            by_cases z : k < g
            · rw [hbn rfl k z]; rw [decide_eq_true z]; exact Int.le_refl _
            · rw [decide_eq_false z]
              rcases b2_01 (G.testBit k) with ⟨-, e⟩ | ⟨-, e⟩ <;> rw [e] <;> decide
          rw [← pc_sum, hpc] at h1
          have h2 : ∀ g, g ≤ 12 → siV (fun k => b2 (decide (k < g))) 12 = g := by
            intro g hg
            have : g = 0 ∨ g = 1 ∨ g = 2 ∨ g = 3 ∨ g = 4 ∨ g = 5 ∨ g = 6 ∨ g = 7 ∨ g = 8 ∨ g = 9 ∨ g = 10 ∨ g = 11 ∨ g = 12 := by omega
            rcases this with rfl | rfl | rfl | rfl | rfl | rfl | rfl | rfl | rfl | rfl | rfl | rfl | rfl <;> decide
          rw [h2 g h12] at h1
          omega
        | some q0 =>
          obtain ⟨r1, r2, r3⟩ := hbs q0 rfl
          exact E1.ok ⟨q0, rfl, r1, r2, r3⟩
    · rintro _ ⟨q, rfl, hq, hbq, hmax⟩
      have hq12 : q < 12 := by omega
      simp only [nI_m1 (show q < 2 ^ 31 by omega), Option.bind_some, reduceIte, if_true, if_false, Bool.false_eq_true, ck_tt, shl_nI q (by omega)]
      have e1 : nI G ||| nI (2 ^ q) = nI (G ||| 2 ^ q) := by
        refine bt_ext fun k hk => ?_
        rw [bt_or hk, bt_nI hk, bt_nI hk, bt_nI hk, Nat.testBit_or]
      have hlt : G ||| 2 ^ q < 4096 := by
        rw [← e4096]
        exact Nat.or_lt_two_pow (by rw [e4096]; exact hG) (Nat.pow_lt_pow_right (by omega) hq12)
      refine E1.ok ⟨G ||| 2 ^ q, snV a I w q, q + 1, Prod.ext e1 (nI_1 i), hlt, by rw [pc_one G hq12 hbq, hpc], fun k hk => ?_⟩
      have hnq : ¬ (q < g ∧ (c < snV a I w q ∨ (snV a I w q = c ∧ q < j))) := fun z => by rw [(ht q hq12).mpr z] at hbq; cases hbq
      rw [Nat.testBit_or, Nat.testBit_two_pow, Bool.or_eq_true_iff, decide_eq_true_iff, ht k hk]
      constructor
      · rintro (⟨z1, z2⟩ | rfl)
        · exact ⟨z1, by omega⟩
        · exact ⟨hq, Or.inr ⟨rfl, Nat.lt_succ_self _⟩⟩
      · rintro ⟨z1, z2⟩
        by_cases hkb : G.testBit k = true
        · exact Or.inl ((ht k hk).mp hkb)
        · rw [Bool.not_eq_true] at hkb
          have := hmax k z1 hkb
          right
          omega
  · rintro s ⟨G, c, j, rfl, hG, hpc, ht⟩
    simp only [Option.bind_some, reduceIte, if_true, if_false, Bool.false_eq_true, ck_tt, cm_leT (Nat.le_refl n) (nat_31 (n := n) (by omega))]
    exact E1.ok ⟨G, c, j, rfl, hG, hpc, ht⟩
/-- all sets tried, behind the other side's first checks -/
def moMon (y : Int32) (M : Mem) : Option (Int32 × Mem) := loopN LIM (fun s9 : Int32 × Int32 × Int32 => (ck (qS M 1528 = 19)).bind fun h11 => (F_Mo_gates 1528 M).bind fun v10 => if ((1 : Int32) <<< (v10 &&& 31)) ≤ s9.2.2 then (some (.inr ((s9.1, M)))) else ((F_J_bitCount s9.2.2 M).bind fun v13 => if v13 = y then ((loopN LIM (fun s15 : Int32 × Int32 => (F_Mo_gates 1528 M).bind fun v16 => if v16 ≤ s15.2 then (some (.inr (s15.1))) else (loopN LIM (fun s18 : Int32 × Int32 => (F_Mo_walkers 1528 M).bind fun v19 => (if v19 ≤ s18.2 then (some false) else ((F_Mo_has s9.2.2 s15.2 M).bind fun v22 => if v22 = 0 then (some true) else (some false)) : Option Bool).bind fun b21 => if b21 = true then ((F_Mo_isForSale 1528 s18.2 s15.2 M).bind fun v24 => (if v24 = 0 then (some (0 : Int32)) else (some (1 : Int32)) : Option (Int32)).bind fun s26 => some (.inl ((s18.1 + s26), (s18.2 + (1 : Int32))))) else (some (.inr (.inl (s18.1, (s15.2 + (1 : Int32))))))) (s15.1, (0 : Int32)))) ((0 : Int32), (0 : Int32)) : Option (Int32)).bind fun s27 => (if s9.1 < 0 then (some false) else (if s27 < s9.2.1 then (some false) else (some true)) : Option Bool).bind fun b29 => if b29 = true then (some (.inl (s9.1, s9.2.1, (s9.2.2 + (1 : Int32))))) else (some (.inl (s9.2.2, s27, (s9.2.2 + (1 : Int32)))))) else (some (.inl (s9.1, s9.2.1, (s9.2.2 + (1 : Int32))))))) ((-1 : Int32), (0 : Int32), (0 : Int32))
/-- the sum as the other side takes it -/
def lfN (sn : Nat → Nat) (s : Nat) : Nat → Nat
  | 0 => 0
  | n + 1 => lfN sn s n + if s.testBit n = true then 0 else sn n
theorem lfN_I (sn : Nat → Nat) (s : Nat) : ∀ n, (lfN sn s n : Int) = lfV sn s n
  | 0 => rfl
  | n + 1 => by
    have ih := lfN_I sn s n
    show ((_ + _ : Nat) : Int) = _ + _
    rw [Int.natCast_add, ih]
    congr 1
    show ((if s.testBit n = true then 0 else sn n : Nat) : Int) = (1 - b2 (s.testBit n)) * (sn n : Int)
    rcases b2_01 (s.testBit n) with ⟨e1, e2⟩ | ⟨e1, e2⟩ <;> rw [e2, e1] <;> simp
theorem m_left (h : WR a I W g w) (hm : MN K) (s : Nat) (i32 : Int32) (hi : i32 = nI s) : E1 (loopN LIM (fun s15 : Int32 × Int32 => if nI g ≤ s15.2 then (some (.inr (s15.1))) else (loopN LIM (fun s18 : Int32 × Int32 => (F_Mo_walkers 1528 (rowI J 1529 W, K)).bind fun v19 => (if v19 ≤ s18.2 then (some false) else ((F_Mo_has i32 s15.2 (rowI J 1529 W, K)).bind fun v22 => if v22 = 0 then (some true) else (some false)) : Option Bool).bind fun b21 => if b21 = true then ((F_Mo_isForSale 1528 s18.2 s15.2 (rowI J 1529 W, K)).bind fun v24 => (if v24 = 0 then (some (0 : Int32)) else (some (1 : Int32)) : Option (Int32)).bind fun s26 => some (.inl ((s18.1 + s26), (s18.2 + (1 : Int32))))) else (some (.inr (.inl (s18.1, (s15.2 + (1 : Int32))))))) (s15.1, (0 : Int32)))) ((0 : Int32), (0 : Int32)) : Option (Int32)) (fun u => u = nI (lfN (snV a I w) s g)) := by
  have h8 := h.w8
  have h12 := h.g12
  subst hi
  refine lq1 (fun q z => z = (nI (lfN (snV a I w) s q), nI q)) _ g (lim_lt (by omega)) (Nat.zero_le _) rfl ?_ ?_
  · rintro q z hq rfl
    have hq12 : q < 12 := by omega
    simp only [Option.bind_some, reduceIte, if_true, if_false, Bool.false_eq_true, ck_tt, v_qS, mo_k hm, mw_f hm, mo_r1 hm, mw_gates hm, mw_walkers hm, h.gb, cm_leF hq (nat_31 (n := g) (by omega))]
    generalize hL : lfN (snV a I w) s q = L
    cases hb : s.testBit q with
    | true =>
      refine lq1 (fun _ z => z = (nI L, (0 : Int32))) _ 0 (lim_lt (by omega)) (Nat.le_refl 0) rfl (fun i s hi => absurd hi (Nat.not_lt_zero _)) ?_
      rintro z rfl
      have fin : Sum.elim (fun _ => False) (Sum.elim (fun z => z = (nI (lfN (snV a I w) s (q + 1)), nI (q + 1))) fun u => u = nI (lfN (snV a I w) s g)) (Sum.inr (Sum.inl (nI L, nI q + 1)) : (Int32 × Int32) ⊕ ((Int32 × Int32) ⊕ Int32)) := by
        refine Prod.ext ?_ (nI_1 q)
        show _ = nI (_ + if s.testBit q = true then 0 else _)
        rw [hb, if_pos rfl, Nat.add_zero, hL]
      by_cases hw0 : W 1 ≤ 0
      · simp only [hw0, Option.bind_some, reduceIte, if_true, if_false, Bool.false_eq_true, ck_tt]
        exact E1.ok fin
      · simp only [hw0, Option.bind_some, reduceIte, if_true, if_false, Bool.false_eq_true, ck_tt, mo_has rfl, bt_nI (show q < 32 by omega), hb, i32_10]
        exact E1.ok fin
    | false =>
      refine lq1 (fun v z => z = (nI (L + cnV (fun v => slB a I v q) v), nI v)) _ w (lim_lt (by omega)) (Nat.zero_le _) rfl ?_ ?_
      · rintro v z hv rfl
        simp only [Option.bind_some, reduceIte, if_true, if_false, Bool.false_eq_true, ck_tt, h.wb, cm_leF hv (nat_31 (n := w) (by omega)), mo_has rfl, bt_nI (show q < 32 by omega), hb, i32_00, m_sale h hm hv hq12]
        cases hsl : slB a I v q with
        | false =>
          simp only [Option.bind_some, reduceIte, if_true, if_false, Bool.false_eq_true, ck_tt, i32_00]
          refine E1.ok (Prod.ext ?_ (nI_1 v))
          show _ = nI (_ + (_ + if slB a I v q = true then 1 else 0))
          rw [hsl, if_neg (by decide), Nat.add_zero, Int32.add_zero]
        | true =>
          simp only [Option.bind_some, reduceIte, if_true, if_false, Bool.false_eq_true, ck_tt, i32_10]
          refine E1.ok (Prod.ext ?_ (nI_1 v))
          show _ = nI (_ + (_ + if slB a I v q = true then 1 else 0))
          rw [hsl, if_pos rfl, ← Nat.add_assoc, nI_1]
      · rintro z rfl
        simp only [Option.bind_some, reduceIte, if_true, if_false, Bool.false_eq_true, ck_tt, h.wb, cm_leT (Nat.le_refl w) (nat_31 (n := w) (by omega))]
        refine E1.ok (Prod.ext ?_ (nI_1 q))
        show _ = nI (_ + if s.testBit q = true then 0 else _)
        rw [hb, if_neg (by decide), hL]
        rfl
  · rintro z rfl
    simp only [Option.bind_some, reduceIte, if_true, if_false, Bool.false_eq_true, ck_tt, v_qS, mo_k hm, mw_f hm, mo_r1 hm, mw_gates hm, mw_walkers hm, h.gb, cm_leT (Nat.le_refl g) (nat_31 (n := g) (by omega))]
    exact E1.ok rfl
theorem lfN_g {sn : Nat → Nat} {s g : Nat} (hg : g ≤ 12) : lfN (fun k => if k < g then sn k else 0) s 12 = lfN sn s g := by
  have e : ∀ n, n ≤ g → lfN (fun k => if k < g then sn k else 0) s n = lfN sn s n := by
    intro n hn
    induction n with
    | zero => rfl
    | succ n ih =>
      show _ + (if _ then 0 else (if n < g then sn n else 0)) = _ + (if _ then 0 else sn n)
      rw [ih (by omega), if_pos (show n < g by omega)]
  have e2 : ∀ d, lfN (fun k => if k < g then sn k else 0) s (g + d) = lfN sn s g := by
    intro d
    induction d with
    | zero => exact e g (Nat.le_refl _)
    | succ d ih =>
      show lfN (fun k => if k < g then sn k else 0) s (g + d) + (if s.testBit (g + d) = true then 0 else (if g + d < g then sn (g + d) else 0)) = _
      rw [if_neg (show ¬ g + d < g by omega), ih]
      by_cases z : s.testBit (g + d) = true
      · rw [if_pos z, Nat.add_zero]
      · rw [if_neg z, Nat.add_zero]
  have := e2 (12 - g)
  rwa [show g + (12 - g) = 12 by omega] at this
theorem r_mon (h : WR a I W g w) (hn : WN N a) (hm : MN K) {n : Nat} (hng : n ≤ g) : E2 (F_Plans_worstChange a (nI n) (I, N)) (moMon (nI n) (rowI J 1529 W, K)) (fun u u' => u = u'.1 ∧ u'.2 = (rowI J 1529 W, K)) := by
  have h8 := h.w8
  have h12 := h.g12
  have hp := p4096 h12
  have hsn : ∀ q, snV a I w q ≤ 8 := fun q => Nat.le_trans (cnV_le _ _) h8
  refine E2.mk (c_worst h hn hng) ?_
  rintro u ⟨G, c, j, rfl, hG, hpc, ht⟩
  have hGg : G < 2 ^ g := Nat.lt_pow_two_of_testBit _ fun k hk => by
    cases hb : G.testBit k with
    | false => rfl
    | true =>
      have := num_lt hG hb
      have := ((ht k this).mp hb).1
      omega
  -- sums of the gates that are there
  have ht' : thr (fun k => if k < g then snV a I w k else 0) g c j G := fun k hk => by
    rw [ht k hk]
    constructor
    · rintro ⟨z1, z2⟩
      refine ⟨z1, ?_⟩
      show (c < if k < g then snV a I w k else 0) ∨ ((if k < g then snV a I w k else 0) = c ∧ k < j)
      rw [if_pos z1]; exact z2
    · rintro ⟨z1, z2⟩
      refine ⟨z1, ?_⟩
      have z2 : (c < if k < g then snV a I w k else 0) ∨ ((if k < g then snV a I w k else 0) = c ∧ k < j) := z2
      rw [if_pos z1] at z2; exact z2
  have best : ∀ s, s < 2 ^ g → pcN s = n → lfN (snV a I w) G g ≤ lfN (snV a I w) s g ∧ (s < G → lfN (snV a I w) G g < lfN (snV a I w) s g) := by
    intro s hs hps
    have hb := thr_best (s := s) ht' (fun k hk hk2 => Nat.testBit_lt_two_pow (Nat.lt_of_lt_of_le hs (Nat.pow_le_pow_right (by omega) hk))) (by rw [hps, hpc]) hG (by omega)
    rw [← lfN_I, ← lfN_I, lfN_g h12, lfN_g h12] at hb
    exact ⟨by have := hb.1; omega, fun z => by have := hb.2 z; omega⟩
  have hlb : ∀ s, lfN (snV a I w) s g ≤ 96 := by
    have : ∀ s n, n ≤ 12 → lfN (snV a I w) s n ≤ 8 * n := by
      intro s n hn'
      induction n with
      | zero => exact Nat.le_refl _
      | succ n ih =>
        have := ih (by omega)
        have := hsn n
        show lfN (snV a I w) s n + (if s.testBit n = true then 0 else snV a I w n) ≤ _
        by_cases z : s.testBit n = true
        · rw [if_pos z]; omega
        · rw [if_neg z]; omega
    intro s
    have := this s g h12
    omega
  unfold moMon
  refine lq1 (fun i s => ∃ (b : Option Nat) (l : Nat), s = (enc b, nI l, nI i) ∧ l ≤ 96 ∧ ((i ≤ G ∧ ∀ s, b = some s → s < 4096 ∧ lfN (snV a I w) G g < l) ∨ (G < i ∧ b = some G ∧ l = lfN (snV a I w) G g))) _ (2 ^ g) (lim_lt (by omega)) (Nat.zero_le _) ⟨none, 0, rfl, by omega, Or.inl ⟨Nat.zero_le _, fun s e => by cases e⟩⟩ ?_ ?_
  · rintro i s hi ⟨b, l, rfl, hl, hbl⟩
    have hle : ((1 : Int32) <<< (nI g &&& 31) ≤ nI i) = False := by rw [shl_nI g (by omega)]; exact cm_leF hi (nat_31 (by omega))
    rw [show F_Mo_gates 1528 (rowI J 1529 W, K) = some (nI g) by rw [mw_gates hm, h.gb]]
    simp only [v_qS, mo_k hm, ck_tt, Option.bind_some, hle, if_false, jbc, pc_nI i (by omega)]
    have skip : i ≠ G → E1 (some (Sum.inl (enc b, nI l, nI i + 1)) : Option ((Int32 × Int32 × Int32) ⊕ (Int32 × Mem))) (Sum.elim (fun s => ∃ (b : Option Nat) (l : Nat), s = (enc b, nI l, nI (i + 1)) ∧ l ≤ 96 ∧ ((i + 1 ≤ G ∧ ∀ s, b = some s → s < 4096 ∧ lfN (snV a I w) G g < l) ∨ (G < i + 1 ∧ b = some G ∧ l = lfN (snV a I w) G g))) (fun u' => nI G = u'.1 ∧ u'.2 = (rowI J 1529 W, K))) := fun hne => E1.ok ⟨b, l, Prod.ext rfl (Prod.ext rfl (nI_1 i)), hl, by
      rcases hbl with ⟨z, z2⟩ | ⟨z, z2⟩
      · exact Or.inl ⟨by omega, z2⟩
      · exact Or.inr ⟨by omega, z2⟩⟩
    by_cases hpi : pcN i = n
    · rw [if_pos (by rw [hpi])]
      obtain ⟨hb1, hb2⟩ := best i hi hpi
      have hli := hlb i
      refine E1.bind (m_left h hm i (nI i) rfl) ?_
      rintro _ rfl
      rcases hbl with ⟨z, z2⟩ | ⟨z, rfl, rfl⟩
      · have take : E1 (some (Sum.inl (nI i, nI (lfN (snV a I w) i g), nI i + 1)) : Option ((Int32 × Int32 × Int32) ⊕ (Int32 × Mem))) (Sum.elim (fun s => ∃ (b : Option Nat) (l : Nat), s = (enc b, nI l, nI (i + 1)) ∧ l ≤ 96 ∧ ((i + 1 ≤ G ∧ ∀ s, b = some s → s < 4096 ∧ lfN (snV a I w) G g < l) ∨ (G < i + 1 ∧ b = some G ∧ l = lfN (snV a I w) G g))) (fun u' => nI G = u'.1 ∧ u'.2 = (rowI J 1529 W, K))) := E1.ok ⟨some i, _, Prod.ext rfl (Prod.ext rfl (nI_1 i)), hli, by
          by_cases e : i = G
          · subst e; exact Or.inr ⟨Nat.lt_succ_self _, rfl, rfl⟩
          · exact Or.inl ⟨by omega, fun s e => by cases e; exact ⟨by omega, hb2 (by omega)⟩⟩⟩
        cases b with
        | none =>
          simp (decide := true) only [show enc none = (-1 : Int32) from rfl, Option.bind_some, reduceIte, if_true, if_false, Bool.false_eq_true, ck_tt]
          exact take
        | some s =>
          obtain ⟨y1, y2⟩ := z2 s rfl
          simp only [show enc (some s) = nI s from rfl, show (nI s < 0) = False from eq_false (nI_pos (by omega)), if_false]
          by_cases hlt : lfN (snV a I w) i g < l
          · simp only [cm_ltT hlt (nat_31 (n := l) (by omega)), Option.bind_some, reduceIte, if_true, if_false, Bool.false_eq_true, ck_tt]
            exact take
          · simp only [cm_ltF (Nat.not_lt.mp hlt) (nat_31 (n := lfN (snV a I w) i g) (by omega)), Option.bind_some, reduceIte, if_true, if_false, Bool.false_eq_true, ck_tt]
            refine skip fun e => ?_
            subst e
            omega
      · simp only [show enc (some G) = nI G from rfl, show (nI G < 0) = False from eq_false (nI_pos (by omega)), if_false, cm_ltF hb1 (nat_31 (n := lfN (snV a I w) i g) (by omega)), Option.bind_some, reduceIte, if_true, if_false, Bool.false_eq_true, ck_tt]
        exact skip (by omega)
    · rw [if_neg (fun e => hpi ((nI_eq (nat_31 (by have := pcN_le i; omega)) (nat_31 (by omega))).mp e))]
      exact skip (fun e => hpi (by rw [e]; exact hpc))
  · rintro s ⟨b, l, rfl, hl, hbl⟩
    have hle : ((1 : Int32) <<< (nI g &&& 31) ≤ nI (2 ^ g)) = True := by rw [shl_nI g (by omega)]; exact cm_leT (Nat.le_refl _) (nat_31 (by omega))
    rw [show F_Mo_gates 1528 (rowI J 1529 W, K) = some (nI g) by rw [mw_gates hm, h.gb]]
    simp only [v_qS, mo_k hm, ck_tt, Option.bind_some, hle, if_true]
    rcases hbl with ⟨z, -⟩ | ⟨z, rfl, rfl⟩
    · omega
    · exact E1.ok ⟨rfl, rfl⟩
end MON
