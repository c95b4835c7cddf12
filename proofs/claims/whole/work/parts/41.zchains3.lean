/-! the other side's chains; both answer alike -/
section CHC
variable {a c g w k v q p n s : Nat} {I I' I2 : IM} {W W' : Nat → Int32} {N K : NM} {J : IM} {M M' : Mem}
theorem ix_c {x y : Int32} (o k : Nat) (hx : x = nI o) (hy : y = nI k) : ((286 : Int32) + (13 : Int32) * x) + y = nI (286 + 13 * o + k) := by
  subst hx hy
  rw [show (286 : Int32) = nI 286 from rfl, show (13 : Int32) = nI 13 from rfl, pk_mul, nI_add, nI_add]
theorem m_ofc {x y : Int32} {o k : Nat} (hm : MN K) (hx : x = nI o) (ho : o < 6) (hy : y = nI k) (hk : k < 13) : F_Mo_ofChain 1528 x y (rowI J 1529 W, K) = some (W (286 + 13 * o + k)) := by
  unfold F_Mo_ofChain
  rw [mo_r1 hm, Option.bind_some, mw_a hm (ix_c o k hx hy) (by omega)]
  rfl
/-- the length of a chain -/
def lnV (I : IM) (c i : Nat) : Nat := (I (c + 8) i).toNatClampNeg
theorem ln_e (h : CRl c I W g n) (hg : g ≤ 12) {i : Nat} (hi : i < n) : I (c + 8) i = nI (lnV I c i) ∧ lnV I c i ≤ g ∧ W (286 + 13 * i + 0) = nI (lnV I c i) ∧ ∀ k, k < lnV I c i → I (c + 2 + i) k = W (286 + 13 * i + (1 + k)) ∧ ∃ x, x < 128 ∧ I (c + 2 + i) k = nI x := by
  obtain ⟨l, hl, e, e2, e3⟩ := h.2.2.2 i hi
  unfold lnV
  rw [e, nI_clamp (by omega)]
  exact ⟨rfl, hl, e2, e3⟩
theorem m_let (h : CRl c I W g n) (hg : g ≤ 12) (hm : MN K) {i : Nat} (hi : i < n) (hq : q < 12) : F_Mo_letterOf 1528 (nI i) (nI q) (rowI J 1529 W, K) = some (if q < lnV I c i then ltV I c i q else -1) := by
  have h6 := h.1
  obtain ⟨e1, e2, e3, e4⟩ := ln_e h hg hi
  unfold F_Mo_letterOf
  simp only [Option.bind_some, reduceIte, if_true, if_false, Bool.false_eq_true, ck_tt, v_qS, mo_k hm, m_ofc hm (rfl : nI i = nI i) (by omega) (show (0 : Int32) = nI 0 from rfl) (by omega), e3]
  by_cases z : q < lnV I c i
  · simp only [cm_leF z (nat_31 (n := lnV I c i) (by omega)), Option.bind_some, reduceIte, if_true, if_false, Bool.false_eq_true, ck_tt, m_ofc hm (rfl : nI i = nI i) (by omega) (show (1 : Int32) + nI q = nI (1 + q) from nI_add 1 q) (by omega), z]
    rw [← (e4 q z).1, ltV_e (by omega)]
  · simp only [cm_leT (Nat.not_lt.mp z) (nat_31 (n := q) (by omega)), Option.bind_some, reduceIte, if_true, if_false, Bool.false_eq_true, ck_tt, z]
theorem ga_iff (h : CRl c I W g n) (hg : g ≤ 12) (hq : q < 12) : q < gaV I c n ↔ ∀ i, i < n → q < lnV I c i := by
  rw [(ga_spec h hg n (Nat.le_refl n)).2.2 q hq]
  constructor
  · intro z i hi
    obtain ⟨e1, e2, -⟩ := ln_e h hg hi
    exact z i hi _ e1 (by omega)
  · intro z i hi l el hl
    obtain ⟨e1, e2, -⟩ := ln_e h hg hi
    rw [e1] at el
    have := (nI_eq (nat_31 (by omega)) (nat_31 (by omega))).mp el
    have := z i hi
    omega
theorem m_isAsked (h : CRl c I W g n) (hg : g ≤ 12) (hm : MN K) (hq : q < 12) : F_Mo_isAsked 1528 (nI q) (rowI J 1529 W, K) = some (if q < gaV I c n then 1 else 0) := by
  have h6 := h.1
  unfold F_Mo_isAsked
  refine E1.eq (E1.imp (P := fun u => (u = 1 ∧ ∀ i, i < n → q < lnV I c i) ∨ (u = 0 ∧ ∃ i, i < n ∧ ¬ q < lnV I c i)) ?_ ?_)
  · refine lq1 (fun i s => s.2 = nI i ∧ ((s.1 = 1 ∧ ∀ j, j < i → q < lnV I c j) ∨ (s.1 = 0 ∧ ∃ j, j < i ∧ ¬ q < lnV I c j))) _ n (lim_lt (by omega)) (Nat.zero_le _) ⟨rfl, Or.inl ⟨rfl, fun j hj => absurd hj (Nat.not_lt_zero _)⟩⟩ ?_ ?_
    · rintro i ⟨b, d⟩ hi ⟨e, hs⟩
      have e : d = nI i := e
      subst e
      simp only [Option.bind_some, reduceIte, if_true, if_false, Bool.false_eq_true, ck_tt, mo_r1 hm, mw_a hm (show (285 : Int32) = nI 285 from rfl) (show 285 < 2038 by omega), h.2.2.1, cm_leF hi (nat_31 (n := n) (by omega)), m_let h hg hm hi hq]
      rcases hs with ⟨hb, hall⟩ | ⟨hb, j, hj, hno⟩
      · have hb : b = 1 := hb
        subst hb
        by_cases z : q < lnV I c i
        · obtain ⟨x, hx, ex⟩ := ((ln_e h hg hi).2.2.2 q z).2
          have hneg : (ltV I c i q < 0) = False := by rw [ltV_e (by omega), ex]; exact eq_false (nI_pos (by omega))
          simp only [z, hneg, Option.bind_some, reduceIte, if_true, if_false, Bool.false_eq_true, ck_tt, i32_10]
          refine E1.ok ⟨nI_1 i, Or.inl ⟨rfl, fun j hj => ?_⟩⟩
          by_cases e : j = i
          · rw [e]; exact z
          · exact hall j (by omega)
        · simp (decide := true) only [z, Option.bind_some, reduceIte, if_true, if_false, Bool.false_eq_true, ck_tt]
          exact E1.ok ⟨nI_1 i, Or.inr ⟨rfl, i, Nat.lt_succ_self _, z⟩⟩
      · have hb : b = 0 := hb
        subst hb
        simp only [Option.bind_some, reduceIte, if_true, if_false, Bool.false_eq_true, ck_tt]
        exact E1.ok ⟨nI_1 i, Or.inr ⟨rfl, j, by omega, hno⟩⟩
    · rintro ⟨b, d⟩ ⟨e, hs⟩
      have e : d = nI n := e
      subst e
      simp only [Option.bind_some, reduceIte, if_true, if_false, Bool.false_eq_true, ck_tt, mo_r1 hm, mw_a hm (show (285 : Int32) = nI 285 from rfl) (show 285 < 2038 by omega), h.2.2.1, cm_leT (Nat.le_refl n) (nat_31 (n := n) (by omega))]
      rcases hs with ⟨hb, hall⟩ | ⟨hb, hno⟩
      · have hb : b = 1 := hb
        subst hb
        simp (decide := true) only [Option.bind_some, reduceIte, if_true, if_false, Bool.false_eq_true, ck_tt]
        exact E1.ok (Or.inl ⟨rfl, hall⟩)
      · have hb : b = 0 := hb
        subst hb
        simp (decide := true) only [Option.bind_some, reduceIte, if_true, if_false, Bool.false_eq_true, ck_tt]
        exact E1.ok (Or.inr ⟨rfl, hno⟩)
  · rintro u (⟨rfl, z⟩ | ⟨rfl, i, hi, z⟩)
    · rw [if_pos ((ga_iff h hg hq).mpr z)]
    · rw [if_neg (fun y => z ((ga_iff h hg hq).mp y i hi))]
/-- the other side's table of weights -/
theorem mp_a {i : Nat} (hm : MN K) (hi : i < 64) : aI (rowI J 1529 W, K) 1536 (nI i) = some (J 1536 i) := by rw [v_aI hm.2.2.2.2.2.2.2.2.1 hm.2.2.2.2.2.2.2.2.2 rfl hi (by omega), rw_n _ _ (by omega)]
theorem mp_t {i : Nat} {x : Int32} (hm : MN K) (hi : i < 64) : tI (rowI J 1529 W, K) 1536 (nI i) x = some (rowI (u2 J 1536 i x) 1529 W, K) := by rw [v_tI hm.2.2.2.2.2.2.2.2.1 hm.2.2.2.2.2.2.2.2.2 rfl hi (by omega), u2_rowc (by omega)]
theorem md_neg {x : Option Nat} (h : ∀ k, x = some k → k < 100) : (md x < 0) = (x = none) := by
  cases x with
  | none => exact propext ⟨fun _ => rfl, fun _ => by show (-1 : Int32) < 0; decide⟩
  | some n => exact propext ⟨fun z => absurd z (nI_pos (by have := h n rfl; omega)), fun z => by cases z⟩
theorem md_pos {x : Option Nat} (h : ∀ k, x = some k → k < 100) : (0 ≤ md x) = (x ≠ none) := by
  have := md_neg h
  cases x with
  | none => exact propext ⟨fun z => absurd z (by show ¬ (0 : Int32) ≤ -1; decide), fun z => absurd rfl z⟩
  | some n => exact propext ⟨fun _ z => (by cases z), fun _ => nI_pos' (by have := h n rfl; omega)⟩
theorem m_asked (h : CRl c I W g n) (hg : g ≤ 12) (hm : MN K) (hq : q < gaV I c n) {s : Nat} (hs0 : 0 < s) (hs : s < 2 ^ n) {v : Nat → Option Nat} (hv : ∀ x, x < s → J 1536 x = md (v x)) (hvb : ∀ x k, v x = some k → k ≤ x) : F_Mo_askedAt 1528 (nI q) (nI s) (rowI J 1529 W, K) = some (md (qvV v (ltV I c) n s q)) := by
  have h6 := h.1
  have hq12 : q < 12 := by have := (ga_spec h hg n (Nat.le_refl n)).1; omega
  have h64 : 2 ^ n ≤ 64 := Nat.pow_le_pow_right (n := 2) (by omega) h6
  have hlen : ∀ i, i < n → q < lnV I c i := (ga_iff h hg hq12).mp hq
  have hbit : ∀ i, n ≤ i → s.testBit i = false := fun i hi => Nat.testBit_lt_two_pow (Nat.lt_of_lt_of_le hs (Nat.pow_le_pow_right (by omega) hi))
  have r19 : ∀ J : IM, fR (rowI J 1529 W, K) 1528 19 19 = some 1536 := fun J => mo_r19 hm
  have lett : ∀ i, i < n → F_Mo_letterOf 1528 (nI i) (nI q) (rowI J 1529 W, K) = some (ltV I c i q) := fun i hi => by rw [m_let h hg hm hi hq12, if_pos (hlen i hi)]
  unfold F_Mo_askedAt
  have loop : E1 (loopN LIM (fun s1 : Int32 × Int32 => if (6 : Int32) ≤ s1.2 then (some (.inr (.inl s1.1))) else ((F_Mo_has (nI s) s1.2 (rowI J 1529 W, K)).bind fun v3 => if v3 = 0 then (some (.inl (s1.1, (s1.2 + (1 : Int32))))) else ((loopN LIM (fun s5 : Int32 × Int32 => if (6 : Int32) ≤ s5.2 then (some (.inr (s5.1))) else ((F_Mo_has (nI s) s5.2 (rowI J 1529 W, K)).bind fun v7 => ((if v7 = 0 then (some false) else ((ck (qS (rowI J 1529 W, K) 1528 = 19)).bind fun h11 => (F_Mo_letterOf 1528 s5.2 (nI q) (rowI J 1529 W, K)).bind fun v10 => (F_Mo_letterOf 1528 s1.2 (nI q) (rowI J 1529 W, K)).bind fun v12 => if v10 = v12 then (some true) else (some false)) : Option Bool).bind fun b9 => if b9 = true then (some ((1 : Int32) <<< (s5.2 &&& 31))) else (some (0 : Int32)) : Option (Int32)).bind fun s14 => some (.inl ((s5.1 ||| s14), (s5.2 + (1 : Int32)))))) ((0 : Int32), (0 : Int32)) : Option (Int32)).bind fun s15 => (if s15 = nI s then (some true) else ((fR (rowI J 1529 W, K) 1528 19 19).bind fun v18 => (aI (rowI J 1529 W, K) v18 s15).bind fun v19 => if 0 ≤ v19 then (some false) else (some true)) : Option Bool).bind fun b17 => if b17 = true then (some (.inr (.inr ((-1 : Int32))))) else ((fR (rowI J 1529 W, K) 1528 19 19).bind fun v21 => (aI (rowI J 1529 W, K) v21 s15).bind fun v22 => some (.inl ((mMax s1.1 v22), (s1.2 + (1 : Int32)))))))) ((0 : Int32), (0 : Int32)) : Option (Int32 ⊕ Int32)) (fun r => (∃ m, r = Sum.inl (nI m) ∧ mxV v (fun o => ltV I c o q) n s n = some m) ∨ (r = Sum.inr (-1) ∧ mxV v (fun o => ltV I c o q) n s n = none)) := by
    refine lq1 (fun i z => ∃ m, z = (nI m, nI i) ∧ mxV v (fun o => ltV I c o q) n s (min i n) = some m) _ 6 (lim_lt (by omega)) (Nat.zero_le _) ⟨0, rfl, by rw [Nat.zero_min]; rfl⟩ ?_ ?_
    · rintro i z hi ⟨m, rfl, hm'⟩
      simp only [show ((6 : Int32) ≤ nI i) = False from cm_leF (b := 6) hi (by omega), Option.bind_some, reduceIte, if_true, if_false, Bool.false_eq_true, ck_tt, mo_has rfl, bt_nI (show i < 32 by omega)]
      cases hb : s.testBit i with
      | false =>
        simp only [Option.bind_some, reduceIte, if_true, if_false, Bool.false_eq_true, ck_tt]
        refine E1.ok ⟨m, Prod.ext rfl (nI_1 i), ?_⟩
        by_cases hin : i < n
        · rw [Nat.min_eq_left (by omega)] at hm' ⊢
          unfold mxV
          rw [hb, if_neg (by decide)]; exact hm'
        · rw [Nat.min_eq_right (by omega)] at hm' ⊢; exact hm'
      | true =>
        have hin : i < n := Nat.not_le.mp fun z => by rw [hbit i z] at hb; cases hb
        rw [Nat.min_eq_left (by omega)] at hm'
        have hst : mxV v (fun o => ltV I c o q) n s (i + 1) = if s.testBit i = true then (if alN (fun o => ltV I c o q) s (ltV I c i q) n = s then none else match mxV v (fun o => ltV I c o q) n s i, v (alN (fun o => ltV I c o q) s (ltV I c i q) n) with | some m, some k => some (max m k) | _, _ => none) else mxV v (fun o => ltV I c o q) n s i := rfl
        rw [hb, if_pos rfl] at hst
        have hn9 : ∀ j, i < j → mxV v (fun o => ltV I c o q) n s (i + 1) = none → mxV v (fun o => ltV I c o q) n s j = none := by
          intro j hj e
          induction j with
          | zero => omega
          | succ j ih =>
            by_cases z : j = i
            · rw [z]; exact e
            · have := ih (by omega)
              unfold mxV
              rw [this]
              by_cases hb : s.testBit j = true
              · rw [if_pos hb]
                by_cases e2 : alN (fun o => ltV I c o q) s (ltV I c j q) n = s
                · rw [if_pos e2]
                · rw [if_neg e2]
              · rw [if_neg hb]
        simp only [Option.bind_some, reduceIte, if_true, if_false, Bool.false_eq_true, ck_tt, i32_10]
        refine E1.bind (P := fun u => u = nI (alN (fun o => ltV I c o q) s (ltV I c i q) n)) ?_ ?_
        · refine lq1 (fun o z => z = (nI (alN (fun o => ltV I c o q) s (ltV I c i q) (min o n)), nI o)) _ 6 (lim_lt (by omega)) (Nat.zero_le _) (by rw [Nat.zero_min]; rfl) ?_ ?_
          · rintro o z ho rfl
            simp only [show ((6 : Int32) ≤ nI o) = False from cm_leF (b := 6) ho (by omega), Option.bind_some, reduceIte, if_true, if_false, Bool.false_eq_true, ck_tt, mo_has rfl, bt_nI (show o < 32 by omega), lett i hin]
            cases hbo : s.testBit o with
            | false =>
              simp only [Option.bind_some, reduceIte, if_true, if_false, Bool.false_eq_true, ck_tt]
              refine E1.ok (Prod.ext ?_ (nI_1 o))
              by_cases hon : o < n
              · rw [Nat.min_eq_left (by omega), Nat.min_eq_left (by omega)]
                show nI _ ||| 0 = nI (_ ||| if s.testBit o = true ∧ _ then _ else 0)
                rw [if_neg (fun z => by rw [hbo] at z; cases z.1), Nat.or_zero]
                refine bt_ext fun k hk => ?_
                rw [bt_or hk, bt_zero hk, Bool.or_false]
              · rw [Nat.min_eq_right (by omega), Nat.min_eq_right (by omega)]
                refine bt_ext fun k hk => ?_
                rw [bt_or hk, bt_zero hk, Bool.or_false]
            | true =>
              have hon : o < n := Nat.not_le.mp fun z => by rw [hbit o z] at hbo; cases hbo
              have hor : ∀ x y, nI x ||| nI y = nI (x ||| y) := fun x y => by
                refine bt_ext fun k hk => ?_
                rw [bt_or hk, bt_nI hk, bt_nI hk, bt_nI hk, Nat.testBit_or]
              simp only [Option.bind_some, reduceIte, if_true, if_false, Bool.false_eq_true, ck_tt, i32_10, v_qS, mo_k hm, lett o hon, shl_nI o (by omega)]
              by_cases e : ltV I c o q = ltV I c i q
              · simp only [e, Option.bind_some, reduceIte, if_true, if_false, Bool.false_eq_true, ck_tt]
                refine E1.ok (Prod.ext ?_ (nI_1 o))
                rw [Nat.min_eq_left (by omega), Nat.min_eq_left (by omega)]
                show nI _ ||| nI _ = nI (_ ||| if s.testBit o = true ∧ _ then _ else 0)
                rw [if_pos ⟨hbo, e⟩, hor]
              · simp only [e, Option.bind_some, reduceIte, if_true, if_false, Bool.false_eq_true, ck_tt]
                refine E1.ok (Prod.ext ?_ (nI_1 o))
                rw [Nat.min_eq_left (by omega), Nat.min_eq_left (by omega)]
                show nI _ ||| nI 0 = nI (_ ||| if s.testBit o = true ∧ _ then _ else 0)
                rw [if_neg (fun z => e z.2), hor]
          · rintro z rfl
            simp only [show ((6 : Int32) ≤ nI 6) = True from cm_leT (b := 6) (Nat.le_refl 6) (by omega), Option.bind_some, reduceIte, if_true, if_false, Bool.false_eq_true, ck_tt]
            refine E1.ok ?_
            show nI _ = _
            rw [Nat.min_eq_right h6]
        · rintro _ rfl
          have hle : alN (fun o => ltV I c o q) s (ltV I c i q) n ≤ s := al_le
          have e9 : (nI (alN (fun o => ltV I c o q) s (ltV I c i q) n) = nI s) = (alN (fun o => ltV I c o q) s (ltV I c i q) n = s) := propext (nI_eq (by omega) (by omega))
          simp only [e9]
          by_cases e : alN (fun o => ltV I c o q) s (ltV I c i q) n = s
          · rw [if_pos e] at hst
            simp only [e, Option.bind_some, reduceIte, if_true, if_false, Bool.false_eq_true, ck_tt]
            exact E1.ok (Or.inr ⟨rfl, hn9 n hin hst⟩)
          · rw [if_neg e, hm'] at hst
            have hlt : alN (fun o => ltV I c o q) s (ltV I c i q) n < s := Nat.lt_of_le_of_ne hle e
            have hmd : (0 ≤ md (v (alN (fun o => ltV I c o q) s (ltV I c i q) n))) = (v (alN (fun o => ltV I c o q) s (ltV I c i q) n) ≠ none) := md_pos (fun k hk => by have := hvb _ k hk; omega)
            simp only [e, Option.bind_some, reduceIte, if_true, if_false, Bool.false_eq_true, ck_tt, r19, mp_a hm (show alN (fun o => ltV I c o q) s (ltV I c i q) n < 64 by omega), hv _ hlt, hmd]
            cases e2 : v (alN (fun o => ltV I c o q) s (ltV I c i q) n) with
            | none =>
              rw [e2] at hst
              simp only [ne_eq, not_true_eq_false, Option.bind_some, reduceIte, if_true, if_false, Bool.false_eq_true, ck_tt]
              exact E1.ok (Or.inr ⟨rfl, hn9 n hin hst⟩)
            | some k =>
              rw [e2] at hst
              have hk := hvb _ k e2
              have hmb := mx_bd (v := v) (lt := fun o => ltV I c o q) (n := n) (s := s) (fun x k _ hk => hvb x k hk) i m hm'
              simp only [ne_eq, reduceCtorEq, not_false_eq_true, Option.bind_some, reduceIte, if_true, if_false, Bool.false_eq_true, ck_tt]
              refine E1.ok ⟨max m k, Prod.ext ?_ (nI_1 i), by rw [Nat.min_eq_left (by omega)]; exact hst⟩
              show (if nI m < nI k then nI k else nI m) = nI (max m k)
              by_cases z : m < k
              · rw [if_pos (nI_lt z (by omega)), Nat.max_eq_right (by omega)]
              · rw [if_neg (nI_nlt (by omega) (by omega)), Nat.max_eq_left (by omega)]
    · rintro z ⟨m, rfl, hm'⟩
      rw [Nat.min_eq_right h6] at hm'
      simp only [show ((6 : Int32) ≤ nI 6) = True from cm_leT (b := 6) (Nat.le_refl 6) (by omega), Option.bind_some, reduceIte, if_true, if_false, Bool.false_eq_true, ck_tt]
      exact E1.ok (Or.inl ⟨m, rfl, hm'⟩)
  obtain ⟨r, er, hr⟩ := loop
  rw [er]
  unfold qvV
  rcases hr with ⟨m, rfl, e⟩ | ⟨rfl, e⟩
  · rw [bdS_l, e]
    show some ((1 : Int32) + nI m) = some (nI (m + 1))
    rw [show (1 : Int32) = nI 1 from rfl, nI_add, Nat.add_comm]
  · rw [e]; rfl
end CHC
