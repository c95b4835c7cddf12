/-! chains: the fewest questions that part them -/
/-- the chains that have chain k's letter at a gate: a number as a set -/
def alN (lt : Nat → Int32) (s : Nat) (x : Int32) : Nat → Nat
  | 0 => 0
  | o + 1 => alN lt s x o ||| if s.testBit o = true ∧ lt o = x then 2 ^ o else 0
theorem al_bit {lt : Nat → Int32} {s : Nat} {x : Int32} {k : Nat} : ∀ {n : Nat}, (alN lt s x n).testBit k = true ↔ k < n ∧ s.testBit k = true ∧ lt k = x
  | 0 => ⟨fun z => (by simp [alN] at z), fun z => absurd z.1 (Nat.not_lt_zero _)⟩
  | n + 1 => by
    have ih := al_bit (lt := lt) (s := s) (x := x) (k := k) (n := n)
    show (alN lt s x n ||| _).testBit k = true ↔ _
    rw [Nat.testBit_or, Bool.or_eq_true_iff, ih]
    by_cases e : s.testBit n = true ∧ lt n = x
    · rw [if_pos e, Nat.testBit_two_pow, decide_eq_true_iff]
      constructor
      · rintro (⟨z1, z2⟩ | rfl)
        · exact ⟨by omega, z2⟩
        · exact ⟨Nat.lt_succ_self _, e⟩
      · rintro ⟨z1, z2⟩
        by_cases e2 : n = k
        · exact Or.inr e2
        · exact Or.inl ⟨by omega, z2⟩
    · rw [if_neg e, Nat.zero_testBit]
      constructor
      · rintro (⟨z1, z2⟩ | z)
        · exact ⟨by omega, z2⟩
        · cases z
      · rintro ⟨z1, z2⟩
        by_cases e2 : n = k
        · subst e2; exact absurd z2 e
        · exact Or.inl ⟨by omega, z2⟩
theorem al_le {lt : Nat → Int32} {s : Nat} {x : Int32} {n : Nat} : alN lt s x n ≤ s := nat_sub_le fun _ hk => (al_bit.mp hk).2.1
/-- how many questions behind the first, by the values v of the parts: none, if it can't be -/
def mxV (v : Nat → Option Nat) (lt : Nat → Int32) (n s : Nat) : Nat → Option Nat
  | 0 => some 0
  | c + 1 => if s.testBit c = true then (if alN lt s (lt c) n = s then none else match mxV v lt n s c, v (alN lt s (lt c) n) with
    | some m, some k => some (max m k)
    | _, _ => none) else mxV v lt n s c
def qvV (v : Nat → Option Nat) (lt : Nat → Nat → Int32) (n s q : Nat) : Option Nat := (mxV v (fun o => lt o q) n s n).map (· + 1)
theorem mx_cong {v v' : Nat → Option Nat} {lt : Nat → Int32} {n s : Nat} (h : ∀ x, x < s → v x = v' x) : ∀ c, mxV v lt n s c = mxV v' lt n s c
  | 0 => rfl
  | c + 1 => by
    unfold mxV
    rw [mx_cong h c]
    by_cases hb : s.testBit c = true
    · rw [if_pos hb, if_pos hb]
      by_cases e : alN lt s (lt c) n = s
      · rw [if_pos e, if_pos e]
      · rw [if_neg e, if_neg e, h _ (Nat.lt_of_le_of_ne al_le e)]
    · rw [if_neg hb, if_neg hb]
/-- the first gate at which it is the least -/
def fgV (f : Nat → Option Nat) : Nat → Option Nat
  | 0 => none
  | q + 1 => match f q with
    | none => fgV f q
    | some x => match (fgV f q).bind f with
      | none => some q
      | some y => if x < y then some q else fgV f q
theorem fg_spec {f : Nat → Option Nat} : ∀ n, (fgV f n = none ∧ ∀ q, q < n → f q = none) ∨ ∃ b x, fgV f n = some b ∧ b < n ∧ f b = some x ∧ ∀ q y, q < n → f q = some y → x ≤ y ∧ (q < b → x < y)
  | 0 => Or.inl ⟨rfl, fun q hq => absurd hq (Nat.not_lt_zero _)⟩
  | n + 1 => by
    have hs : fgV f (n + 1) = match f n with | none => fgV f n | some x => match (fgV f n).bind f with | none => some n | some y => if x < y then some n else fgV f n := rfl
    rcases fg_spec (f := f) n with ⟨e, h⟩ | ⟨b, x, e, hb, hf, h⟩
    · cases hn : f n with
      | none =>
        left
        rw [hs, hn]
        refine ⟨e, fun q hq => ?_⟩
        by_cases z : q = n
        · rw [z]; exact hn
        · exact h q (by omega)
      | some y =>
        right
        rw [hs, hn, e]
        refine ⟨n, y, rfl, Nat.lt_succ_self _, hn, fun q y' hq hy => ?_⟩
        by_cases z : q = n
        · rw [z, hn] at hy; cases hy; exact ⟨Nat.le_refl _, fun w => by omega⟩
        · rw [h q (by omega)] at hy; cases hy
    · right
      cases hn : f n with
      | none =>
        rw [hs, hn]
        refine ⟨b, x, e, by omega, hf, fun q y hq hy => ?_⟩
        by_cases z : q = n
        · rw [z, hn] at hy; cases hy
        · exact h q y (by omega) hy
      | some y =>
        have hs2 : fgV f (n + 1) = if y < x then some n else some b := by
          rw [hs, hn, e]
          show (match f b with | none => some n | some z => if y < z then some n else some b) = _
          rw [hf]
        rw [hs2]
        by_cases z : y < x
        · rw [if_pos z]
          refine ⟨n, y, rfl, Nat.lt_succ_self _, hn, fun q y' hq hy => ?_⟩
          by_cases z2 : q = n
          · rw [z2, hn] at hy; cases hy; exact ⟨Nat.le_refl _, fun w => by omega⟩
          · have := (h q y' (by omega) hy).1
            exact ⟨by omega, fun _ => by omega⟩
        · rw [if_neg z]
          refine ⟨b, x, rfl, by omega, hf, fun q y' hq hy => ?_⟩
          by_cases z2 : q = n
          · rw [z2, hn] at hy; cases hy; exact ⟨by omega, fun w => by omega⟩
          · exact h q y' (by omega) hy
/-- the fewest questions for a set: none, if it can't be parted -/
def vlF (lt : Nat → Nat → Int32) (n G : Nat) : Nat → Nat → Option Nat
  | 0, _ => some 0
  | f + 1, s => if pcN s < 2 then some 0 else (fgV (qvV (vlF lt n G f) lt n s) G).bind (qvV (vlF lt n G f) lt n s)
theorem vl_st {lt : Nat → Nat → Int32} {n G : Nat} : ∀ s f f', s < f → s < f' → vlF lt n G f s = vlF lt n G f' s := by
  intro s
  induction s using Nat.strongRecOn with
  | ind s ih =>
    intro f f' hf hf'
    obtain ⟨f, rfl⟩ : ∃ d, f = d + 1 := ⟨f - 1, by omega⟩
    obtain ⟨f', rfl⟩ : ∃ d, f' = d + 1 := ⟨f' - 1, by omega⟩
    have e : qvV (vlF lt n G f) lt n s = qvV (vlF lt n G f') lt n s := by
      refine funext fun q => ?_
      unfold qvV
      rw [mx_cong fun x hx => ih x hx f f' (by omega) (by omega)]
    unfold vlF
    rw [e]
def vlV (lt : Nat → Nat → Int32) (n G s : Nat) : Option Nat := vlF lt n G (s + 1) s
theorem vl_eq (lt : Nat → Nat → Int32) (n G s : Nat) : vlV lt n G s = if pcN s < 2 then some 0 else (fgV (qvV (vlV lt n G) lt n s) G).bind (qvV (vlV lt n G) lt n s) := by
  have e : qvV (vlF lt n G s) lt n s = qvV (vlV lt n G) lt n s := by
    refine funext fun q => ?_
    unfold qvV
    rw [mx_cong fun x hx => vl_st x s (x + 1) hx (Nat.lt_succ_self _)]
    rfl
  show (if pcN s < 2 then _ else _) = _
  rw [e]
theorem mx_bd {v : Nat → Option Nat} {lt : Nat → Int32} {n s : Nat} (h : ∀ x k, x < s → v x = some k → k ≤ x) : ∀ c m, mxV v lt n s c = some m → m < s ∨ m = 0
  | 0, m, e => by cases e; exact Or.inr rfl
  | c + 1, m, e => by
    unfold mxV at e
    by_cases hb : s.testBit c = true
    · rw [if_pos hb] at e
      by_cases e1 : alN lt s (lt c) n = s
      · rw [if_pos e1] at e; cases e
      · rw [if_neg e1] at e
        have hlt : alN lt s (lt c) n < s := Nat.lt_of_le_of_ne al_le e1
        cases e2 : mxV v lt n s c with
        | none => rw [e2] at e; cases e
        | some m1 =>
          cases e3 : v (alN lt s (lt c) n) with
          | none => rw [e2, e3] at e; cases e
          | some k =>
            rw [e2, e3] at e
            have e : some (max m1 k) = some m := e
            cases e
            have h1 := mx_bd h c m1 e2
            have h2 := h _ k hlt e3
            left
            omega
    · rw [if_neg hb] at e
      exact mx_bd h c m e
theorem vl_bd (lt : Nat → Nat → Int32) (n G : Nat) : ∀ s k, vlV lt n G s = some k → k ≤ s := by
  intro s
  induction s using Nat.strongRecOn with
  | ind s ih =>
    intro k e
    rw [vl_eq] at e
    by_cases hp : pcN s < 2
    · rw [if_pos hp] at e; cases e; exact Nat.zero_le _
    · rw [if_neg hp] at e
      have hs : 0 < s := Nat.pos_of_ne_zero fun z => by rw [z] at hp; exact hp (by decide)
      cases hf : fgV (qvV (vlV lt n G) lt n s) G with
      | none => rw [hf] at e; cases e
      | some b =>
        rw [hf] at e
        have e : qvV (vlV lt n G) lt n s b = some k := e
        unfold qvV at e
        cases hm : mxV (vlV lt n G) (fun o => lt o b) n s n with
        | none => rw [hm] at e; cases e
        | some m =>
          rw [hm] at e
          have e : some (m + 1) = some k := e
          cases e
          have := mx_bd (fun x k hx hk => ih x hx k hk) n m hm
          omega
theorem qv_bd {lt : Nat → Nat → Int32} {n G s q k : Nat} (hs : 0 < s) (e : qvV (vlV lt n G) lt n s q = some k) : 1 ≤ k ∧ k ≤ s := by
  unfold qvV at e
  cases hm : mxV (vlV lt n G) (fun o => lt o q) n s n with
  | none => rw [hm] at e; cases e
  | some m =>
    rw [hm] at e
    have e : some (m + 1) = some k := e
    cases e
    have := mx_bd (fun x k _ hk => vl_bd lt n G x k hk) n m hm
    omega
/-- the one side's way to write such a value, the other's -/
def cl : Option Nat → Int32
  | none => 100
  | some k => nI k
def md : Option Nat → Int32
  | none => -1
  | some k => nI k
def CNs (N : NM) (c : Nat) : Prop := (kS N c = 10 ∧ kR N c 0 = c + 1 ∧ kR N c 1 = c + 8 ∧ kR N c 2 = c + 9) ∧ (kS N (c + 1) = 6 ∧ kN N (c + 1) = 6) ∧ (kS N (c + 8) = 1 ∧ kN N (c + 8) = 6) ∧ (kS N (c + 9) = 1 ∧ kN N (c + 9) = 64) ∧ ∀ i, i < 6 → kR N (c + 1) i = c + 2 + i ∧ kS N (c + 2 + i) = 1 ∧ kN N (c + 2 + i) = 12
/-- the chains of both sides -/
def CRl (c : Nat) (I : IM) (W : Nat → Int32) (g n : Nat) : Prop :=
  n ≤ 6 ∧ I c 3 = nI n ∧ W 285 = nI n ∧ ∀ i, i < n → ∃ l, l ≤ g ∧ I (c + 8) i = nI l ∧ W (286 + 13 * i + 0) = nI l ∧ ∀ k, k < l → I (c + 2 + i) k = W (286 + 13 * i + (1 + k)) ∧ ∃ x, x < 128 ∧ I (c + 2 + i) k = nI x
section CHA
variable {a c g w k v q p n s : Nat} {I I' I2 : IM} {W W' : Nat → Int32} {N K : NM} {J : IM} {M M' : Mem}
theorem ch_r0 (h : CNs N c) : fR (I, N) c 10 0 = some (c + 1) := by rw [v_fR h.1.1, h.1.2.1]
theorem ch_r1 (h : CNs N c) : fR (I, N) c 10 1 = some (c + 8) := by rw [v_fR h.1.1, h.1.2.2.1]
theorem ch_r2 (h : CNs N c) : fR (I, N) c 10 2 = some (c + 9) := by rw [v_fR h.1.1, h.1.2.2.2]
theorem ch_q (h : CNs N c) {i : Nat} (hi : i < 6) : aR (I, N) (c + 1) 6 (nI i) = some (c + 2 + i) := by rw [v_aR h.2.1.1 h.2.1.2 rfl hi (by omega), (h.2.2.2.2 i hi).1]
theorem ch_a (h : CNs N c) {i : Nat} (hi : i < 6) (hk : k < 12) : aI (I, N) (c + 2 + i) (nI k) = some (I (c + 2 + i) k) := v_aI (h.2.2.2.2 i hi).2.1 (h.2.2.2.2 i hi).2.2 rfl hk (by omega)
theorem ch_l (h : CNs N c) {i : Nat} (hi : i < 6) : aI (I, N) (c + 8) (nI i) = some (I (c + 8) i) := v_aI h.2.2.1.1 h.2.2.1.2 rfl hi (by omega)
theorem ch_f (h : CNs N c) {i : Nat} (hi : i < 64) : aI (I, N) (c + 9) (nI i) = some (I (c + 9) i) := v_aI h.2.2.2.1.1 h.2.2.2.1.2 rfl hi (by omega)
theorem ch_ft (h : CNs N c) {i : Nat} {x : Int32} (hi : i < 64) : tI (I, N) (c + 9) (nI i) x = some (u2 I (c + 9) i x, N) := v_tI h.2.2.2.1.1 h.2.2.2.1.2 rfl hi (by omega)
/-- how many gates there are for which all n chains have a letter -/
def gaV (I : IM) (c : Nat) : Nat → Nat
  | 0 => 12
  | n + 1 => min (gaV I c n) (I (c + 8) n).toNatClampNeg
theorem ga_spec (h : CRl c I W g n) (hg : g ≤ 12) : ∀ m, m ≤ n → gaV I c m ≤ 12 ∧ (0 < m → gaV I c m ≤ g) ∧ ∀ q, q < 12 → (q < gaV I c m ↔ ∀ i, i < m → ∀ l, I (c + 8) i = nI l → l ≤ 12 → q < l)
  | 0, _ => ⟨Nat.le_refl _, fun z => absurd z (Nat.lt_irrefl _), fun q hq => ⟨fun _ i hi => absurd hi (Nat.not_lt_zero _), fun _ => hq⟩⟩
  | m + 1, hm => by
    obtain ⟨h1, h2, h3⟩ := ga_spec h hg m (by omega)
    obtain ⟨l, hl, e, -⟩ := h.2.2.2 m (by omega)
    have e2 : gaV I c (m + 1) = min (gaV I c m) l := by
      show min _ (I (c + 8) m).toNatClampNeg = _
      rw [e, nI_clamp (by omega)]
    rw [e2]
    refine ⟨by omega, fun _ => by omega, fun q hq => ?_⟩
    rw [Nat.lt_min, h3 q hq]
    constructor
    · rintro ⟨z1, z2⟩ i hi l' el hl'
      by_cases z : i = m
      · subst z
        rw [e] at el
        have := (nI_eq (nat_31 (by omega)) (nat_31 (by omega))).mp el
        omega
      · exact z1 i (by omega) l' el hl'
    · intro z
      exact ⟨fun i hi => z i (by omega), z m (Nat.lt_succ_self _) l e (by omega)⟩
theorem c_gates (h : CRl c I W g n) (hg : g ≤ 12) (hn : CNs N c) : F_Chains_gatesOfAll c (I, N) = some (nI (gaV I c n)) := by
  have h6 := h.1
  unfold F_Chains_gatesOfAll
  refine E1.eq (lq1 (fun i s => s = (nI (gaV I c i), nI i)) _ n (lim_lt (by omega)) (Nat.zero_le _) rfl ?_ ?_)
  · rintro i s hi rfl
    obtain ⟨l, hl, e, -⟩ := h.2.2.2 i hi
    simp only [Option.bind_some, reduceIte, if_true, if_false, Bool.false_eq_true, ck_tt, v_fI hn.1.1, h.2.1, cm_leF hi (nat_31 (n := n) (by omega)), ch_r1 hn, ch_l hn (show i < 6 by omega), e]
    refine E1.ok (Prod.ext ?_ (nI_1 i))
    have h1 := (ga_spec h hg i (by omega)).1
    show mMin _ _ = nI (min _ (I (c + 8) i).toNatClampNeg)
    rw [e, nI_clamp (by omega)]
    unfold mMin
    by_cases z : l < gaV I c i
    · rw [if_pos (nI_lt z (by omega)), Nat.min_eq_right (by omega)]
    · rw [if_neg (nI_nlt (by omega) (by omega)), Nat.min_eq_left (by omega)]
  · rintro s rfl
    simp only [Option.bind_some, reduceIte, if_true, if_false, Bool.false_eq_true, ck_tt, v_fI hn.1.1, h.2.1, cm_leT (Nat.le_refl n) (nat_31 (n := n) (by omega))]
    exact E1.ok rfl
def ltV (I : IM) (c : Nat) (o q : Nat) : Int32 := if o < 6 then I (c + 2 + o) q else 0
theorem ltV_e {o : Nat} (ho : o < 6) : ltV I c o q = I (c + 2 + o) q := if_pos ho
theorem c_alike (h : CRl c I W g n) (hg : g ≤ 12) (hn : CNs N c) (hq : q < 12) (s : Nat) (x : Int32) : F_Chains_alikeAt c (nI s) (nI q) x (I, N) = some (nI (alN (fun o => ltV I c o q) s x n)) := by
  have h6 := h.1
  unfold F_Chains_alikeAt
  refine E1.eq (lq1 (fun i z => z = (nI (alN (fun o => ltV I c o q) s x i), nI i)) _ n (lim_lt (by omega)) (Nat.zero_le _) rfl ?_ ?_)
  · rintro i z hi rfl
    have hor : ∀ y, nI (alN (fun o => ltV I c o q) s x i) ||| nI y = nI (alN (fun o => ltV I c o q) s x i ||| y) := fun y => by
      refine bt_ext fun k hk => ?_
      rw [bt_or hk, bt_nI hk, bt_nI hk, bt_nI hk, Nat.testBit_or]
    simp only [Option.bind_some, reduceIte, if_true, if_false, Bool.false_eq_true, ck_tt, v_fI hn.1.1, h.2.1, cm_leF hi (nat_31 (n := n) (by omega)), bt_iff, bt_nI (show i < 32 by omega), ch_r0 hn, ch_q hn (show i < 6 by omega), ch_a hn (show i < 6 by omega) hq]
    cases hb : s.testBit i with
    | false =>
      simp only [Option.bind_some, reduceIte, if_true, if_false, Bool.false_eq_true, ck_tt]
      refine E1.ok (Prod.ext ?_ (nI_1 i))
      show nI _ ||| 0 = nI (_ ||| if s.testBit i = true ∧ _ then _ else 0)
      rw [if_neg (fun z => by rw [hb] at z; cases z.1), ← hor]; rfl
    | true =>
      by_cases e : I (c + 2 + i) q = x
      · simp only [e, Option.bind_some, reduceIte, if_true, if_false, Bool.false_eq_true, ck_tt, shl_nI i (by omega)]
        refine E1.ok (Prod.ext ?_ (nI_1 i))
        show nI _ ||| _ = nI (_ ||| if s.testBit i = true ∧ _ then _ else 0)
        rw [if_pos ⟨hb, (ltV_e (by omega)).trans e⟩, ← hor]
      · simp only [e, Option.bind_some, reduceIte, if_true, if_false, Bool.false_eq_true, ck_tt]
        refine E1.ok (Prod.ext ?_ (nI_1 i))
        show nI _ ||| 0 = nI (_ ||| if s.testBit i = true ∧ _ then _ else 0)
        rw [if_neg (fun z => e ((ltV_e (show i < 6 by omega)).symm.trans z.2)), ← hor]; rfl
  · rintro z rfl
    simp only [Option.bind_some, reduceIte, if_true, if_false, Bool.false_eq_true, ck_tt, v_fI hn.1.1, h.2.1, cm_leT (Nat.le_refl n) (nat_31 (n := n) (by omega))]
    exact E1.ok rfl
theorem c_from (h : CRl c I W g n) (hg : g ≤ 12) (hn : CNs N c) (hq : q < 12) {s : Nat} (hs0 : 0 < s) (hs : s < 2 ^ n) {v : Nat → Option Nat} (hv : ∀ x, x < s → I (c + 9) x = cl (v x)) (hvb : ∀ x k, v x = some k → k ≤ x) : F_Chains_questionsFrom c (nI s) (nI q) (I, N) = some (cl (qvV v (ltV I c) n s q)) := by
  have h6 := h.1
  have h64 : 2 ^ n ≤ 64 := Nat.pow_le_pow_right (n := 2) (by omega) h6
  unfold F_Chains_questionsFrom
  have loop : E1 (loopN LIM (fun s1 : Int32 × Int32 => (fI (I, N) c 10 3).bind fun v2 => if v2 ≤ s1.2 then (some (.inr (.inl s1.1))) else (if ((nI s >>> (s1.2 &&& 31)) &&& (1 : Int32)) = (1 : Int32) then ((fR (I, N) c 10 0).bind fun v5 => (aR (I, N) v5 6 s1.2).bind fun v6 => (aI (I, N) v6 (nI q)).bind fun v7 => (F_Chains_alikeAt c (nI s) (nI q) v7 (I, N)).bind fun v8 => if v8 = nI s then (some (.inr (.inr ((100 : Int32))))) else ((fR (I, N) c 10 2).bind fun v10 => (aI (I, N) v10 v8).bind fun v11 => some (.inl ((mMax s1.1 v11), (s1.2 + (1 : Int32)))))) else (some (.inl (s1.1, (s1.2 + (1 : Int32))))))) ((0 : Int32), (0 : Int32)) : Option (Int32 ⊕ Int32)) (fun r => (∃ m, r = Sum.inl m ∧ m = cl (mxV v (fun o => ltV I c o q) n s n)) ∨ (r = Sum.inr 100 ∧ mxV v (fun o => ltV I c o q) n s n = none)) := by
    refine lq1 (fun i z => z = (cl (mxV v (fun o => ltV I c o q) n s i), nI i)) _ n (lim_lt (by omega)) (Nat.zero_le _) rfl ?_ ?_
    · rintro i z hi rfl
      simp only [Option.bind_some, reduceIte, if_true, if_false, Bool.false_eq_true, ck_tt, v_fI hn.1.1, h.2.1, cm_leF hi (nat_31 (n := n) (by omega)), bt_iff, bt_nI (show i < 32 by omega), ch_r0 hn, ch_r2 hn, ch_q hn (show i < 6 by omega), ch_a hn (show i < 6 by omega) hq, ← ltV_e (I := I) (c := c) (q := q) (show i < 6 by omega), c_alike h hg hn hq]
      have hst : mxV v (fun o => ltV I c o q) n s (i + 1) = if s.testBit i = true then (if alN (fun o => ltV I c o q) s (ltV I c i q) n = s then none else match mxV v (fun o => ltV I c o q) n s i, v (alN (fun o => ltV I c o q) s (ltV I c i q) n) with | some m, some k => some (max m k) | _, _ => none) else mxV v (fun o => ltV I c o q) n s i := rfl
      have hn9 : ∀ j, i < j → mxV v (fun o => ltV I c o q) n s (i + 1) = none → mxV v (fun o => ltV I c o q) n s j = none := by
        intro j hj e
        induction j with
        | zero => omega
        | succ j ih =>
          by_cases z : j = i
          · rw [z]; exact e
          · have := ih (by omega)
            unfold mxV
            rw [this]
            by_cases hb : s.testBit j = true
            · rw [if_pos hb]
              by_cases e2 : alN (fun o => ltV I c o q) s (ltV I c j q) n = s
              · rw [if_pos e2]
              · rw [if_neg e2]
            · rw [if_neg hb]
      cases hb : s.testBit i with
      | false =>
        simp only [Option.bind_some, reduceIte, if_true, if_false, Bool.false_eq_true, ck_tt]
        rw [hb, if_neg (by decide)] at hst
        exact E1.ok (Prod.ext (by rw [hst]) (nI_1 i))
      | true =>
        rw [hb, if_pos rfl] at hst
        simp only [Option.bind_some, reduceIte, if_true, if_false, Bool.false_eq_true, ck_tt]
        have hle : alN (fun o => ltV I c o q) s (ltV I c i q) n ≤ s := al_le
        have e9 : (nI (alN (fun o => ltV I c o q) s (ltV I c i q) n) = nI s) = (alN (fun o => ltV I c o q) s (ltV I c i q) n = s) := propext (nI_eq (by omega) (by omega))
        simp only [e9]
        by_cases e : alN (fun o => ltV I c o q) s (ltV I c i q) n = s
        · rw [if_pos e] at hst
          simp only [e, Option.bind_some, reduceIte, if_true, if_false, Bool.false_eq_true, ck_tt]
          exact E1.ok (Or.inr ⟨rfl, hn9 n hi hst⟩)
        · rw [if_neg e] at hst
          have hlt : alN (fun o => ltV I c o q) s (ltV I c i q) n < s := Nat.lt_of_le_of_ne hle e
          have e10 : aI (I, N) (c + 9) (nI (alN (fun o => ltV I c o q) s (ltV I c i q) n)) = some (cl (v (alN (fun o => ltV I c o q) s (ltV I c i q) n))) := by
            rw [← hv _ hlt]
            exact ch_f hn (by omega)
          simp only [e, e10, Option.bind_some, reduceIte, if_true, if_false, Bool.false_eq_true, ck_tt]
          refine E1.ok (Prod.ext ?_ (nI_1 i))
          show mMax _ _ = _
          rw [hst]
          have hm9 := mx_bd (v := v) (lt := fun o => ltV I c o q) (n := n) (s := s) (fun x k _ hk => hvb x k hk) i
          cases e1 : mxV v (fun o => ltV I c o q) n s i with
          | none =>
            cases e2 : v (alN (fun o => ltV I c o q) s (ltV I c i q) n) with
            | none => show mMax 100 100 = 100; decide
            | some k =>
              have hk := hvb _ k e2
              show (if (100 : Int32) < nI k then nI k else 100) = 100
              rw [if_neg (show ¬ (100 : Int32) < nI k from nI_nlt (a := 100) (b := k) (by omega) (by omega))]
          | some m =>
            have hm := hm9 m e1
            cases e2 : v (alN (fun o => ltV I c o q) s (ltV I c i q) n) with
            | none =>
              show (if nI m < (100 : Int32) then (100 : Int32) else nI m) = 100
              rw [if_pos (show nI m < (100 : Int32) from nI_lt (a := m) (b := 100) (by omega) (by omega))]
            | some k =>
              have hk := hvb _ k e2
              show (if nI m < nI k then nI k else nI m) = nI (max m k)
              by_cases z : m < k
              · rw [if_pos (nI_lt z (by omega)), Nat.max_eq_right (by omega)]
              · rw [if_neg (nI_nlt (by omega) (by omega)), Nat.max_eq_left (by omega)]
    · rintro z rfl
      simp only [Option.bind_some, reduceIte, if_true, if_false, Bool.false_eq_true, ck_tt, v_fI hn.1.1, h.2.1, cm_leT (Nat.le_refl n) (nat_31 (n := n) (by omega))]
      exact E1.ok (Or.inl ⟨_, rfl, rfl⟩)
  obtain ⟨r, er, hr⟩ := loop
  rw [er]
  unfold qvV
  rcases hr with ⟨m, rfl, rfl⟩ | ⟨rfl, e⟩
  · rw [bdS_l]
    cases e1 : mxV v (fun o => ltV I c o q) n s n with
    | none => show some (mMin 100 (100 + 1)) = some 100; decide
    | some m =>
      have hm := mx_bd (v := v) (lt := fun o => ltV I c o q) (n := n) (s := s) (fun x k _ hk => hvb x k hk) n m e1
      show some (if nI m + 1 < (100 : Int32) then nI m + 1 else 100) = some (nI (m + 1))
      rw [nI_1, if_pos (show nI (m + 1) < (100 : Int32) from nI_lt (a := m + 1) (b := 100) (by omega) (by omega))]
  · rw [e]; rfl
end CHA
