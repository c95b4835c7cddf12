/-! questions: both sides, whole -/
section CHD
variable {a c g w k v q p n s : Nat} {I I' I2 : IM} {W W' : Nat → Int32} {N K : NM} {J : IM} {M M' : Mem}
theorem ga_rows (f : ∀ r, r ≠ c + 9 → I' r = I r) : ∀ m, gaV I' c m = gaV I c m
  | 0 => rfl
  | m + 1 => by
    show min (gaV I' c m) (I' (c + 8) m).toNatClampNeg = min (gaV I c m) (I (c + 8) m).toNatClampNeg
    rw [ga_rows f m, f (c + 8) (by omega)]
theorem m_first (h : CRl c I W g n) (hg : g ≤ 12) (hW0 : W 0 = nI g) (hm : MN K) {s : Nat} (hs0 : 0 < s) (hs : s < 2 ^ n) {v : Nat → Option Nat} (hv : ∀ x, x < s → J 1536 x = md (v x)) (hvb : ∀ x k, v x = some k → k ≤ x) (hf : ∀ q k, qvV v (ltV I c) n s q = some k → k < 100) : F_Mo_firstOf 1528 (nI s) (rowI J 1529 W, K) = some (enc (fgV (qvV v (ltV I c) n s) (gaV I c n))) := by
  have h6 := h.1
  have hn0 : 0 < n := Nat.pos_of_ne_zero fun z => by rw [z] at hs; omega
  have hGg := (ga_spec h hg n (Nat.le_refl n)).2.1 hn0
  have hask := fun q (hq : q < gaV I c n) => m_asked (J := J) h hg hm hq hs0 hs hv hvb
  generalize hF : qvV v (ltV I c) n s = f at hask hf
  unfold F_Mo_firstOf
  refine E1.eq (lq1 (fun q z => z = (enc (fgV f (min q (gaV I c n))), nI q)) _ g (lim_lt (by omega)) (Nat.zero_le _) (by rw [Nat.zero_min]; rfl) ?_ ?_)
  · rintro q z hq rfl
    simp only [Option.bind_some, reduceIte, if_true, if_false, Bool.false_eq_true, ck_tt, v_qS, mo_k hm, mw_gates hm, hW0, cm_leF hq (nat_31 (n := g) (by omega)), m_isAsked h hg hm (show q < 12 by omega)]
    by_cases hqG : q < gaV I c n
    · rw [Nat.min_eq_left (by omega), Nat.min_eq_left (show q + 1 ≤ gaV I c n by omega)]
      have hs1 : fgV f (q + 1) = match f q with | none => fgV f q | some x => match (fgV f q).bind f with | none => some q | some y => if x < y then some q else fgV f q := rfl
      simp only [hqG, Option.bind_some, reduceIte, if_true, if_false, Bool.false_eq_true, ck_tt, i32_10, hask q hqG, md_neg (hf q)]
      cases hfq : f q with
      | none =>
        simp only [Option.bind_some, reduceIte, if_true, if_false, Bool.false_eq_true, ck_tt]
        rw [hs1, hfq]
        exact E1.ok (Prod.ext rfl (nI_1 q))
      | some x =>
        rw [hfq] at hs1
        rcases fg_spec (f := f) q with ⟨e, -⟩ | ⟨b, y, e, hb, hfb, -⟩
        · rw [e] at hs1 ⊢
          simp (decide := true) only [reduceCtorEq, Option.bind_some, reduceIte, if_true, if_false, Bool.false_eq_true, ck_tt, show enc none = (-1 : Int32) from rfl]
          rw [hs1]
          exact E1.ok (Prod.ext rfl (nI_1 q))
        · have hs2 : fgV f (q + 1) = if x < y then some q else some b := by
            rw [hs1, e]
            show (match f b with | none => some q | some y => if x < y then some q else some b) = _
            rw [hfb]
          rw [e]
          have hx := hf q x hfq
          have hy := hf b y hfb
          simp only [reduceCtorEq, Option.bind_some, reduceIte, if_true, if_false, Bool.false_eq_true, ck_tt, show enc (some b) = nI b from rfl, show (nI b < 0) = False from eq_false (nI_pos (by omega)), hask b (by omega), hfb, show md (some x) = nI x from rfl, show md (some y) = nI y from rfl]
          by_cases z : x < y
          · simp only [cm_leF z (show y < 2 ^ 31 by omega), Option.bind_some, reduceIte, if_true, if_false, Bool.false_eq_true, ck_tt]
            rw [hs2, if_pos z]
            exact E1.ok (Prod.ext rfl (nI_1 q))
          · simp only [cm_leT (Nat.not_lt.mp z) (show x < 2 ^ 31 by omega), Option.bind_some, reduceIte, if_true, if_false, Bool.false_eq_true, ck_tt]
            rw [hs2, if_neg z]
            exact E1.ok (Prod.ext rfl (nI_1 q))
    · rw [Nat.min_eq_right (by omega), Nat.min_eq_right (show gaV I c n ≤ q + 1 by omega)]
      simp (decide := true) only [hqG, Option.bind_some, reduceIte, if_true, if_false, Bool.false_eq_true, ck_tt]
      exact E1.ok (Prod.ext rfl (nI_1 q))
  · rintro z rfl
    simp only [Option.bind_some, reduceIte, if_true, if_false, Bool.false_eq_true, ck_tt, v_qS, mo_k hm, mw_gates hm, hW0, cm_leT (Nat.le_refl g) (nat_31 (n := g) (by omega))]
    rw [Nat.min_eq_right hGg]
    exact E1.ok rfl
theorem qf_bd (h : CRl c I W g n) {s : Nat} (hs0 : 0 < s) (hs : s < 2 ^ n) : ∀ q k, qvV (vlV (ltV I c) n (gaV I c n)) (ltV I c) n s q = some k → 1 ≤ k ∧ k < 100 := fun q k hk => by
  have h64 : 2 ^ n ≤ 64 := Nat.pow_le_pow_right (n := 2) (by omega) h.1
  have := qv_bd hs0 hk
  omega
theorem m_table (h : CRl c I W g n) (hg : g ≤ 12) (hW0 : W 0 = nI g) (hm : MN K) : E1 (loopN LIM (fun s4 : Int32 × Mem => if (nI (2 ^ n - 1)) < s4.1 then (some (.inr (s4.2))) else ((F_J_bitCount s4.1 s4.2).bind fun v6 => (if (2 : Int32) ≤ v6 then ((ck (qS s4.2 1528 = 19)).bind fun h9 => (F_Mo_firstOf 1528 s4.1 s4.2).bind fun v8 => some (v8)) else (some (-1 : Int32)) : Option (Int32)).bind fun s10 => (fR s4.2 1528 19 19).bind fun v11 => (F_J_bitCount s4.1 s4.2).bind fun v12 => (if (2 : Int32) ≤ v12 then (if 0 ≤ s10 then ((F_Mo_askedAt 1528 s10 s4.1 s4.2).bind fun v15 => some (v15)) else (some (-1 : Int32))) else (some (0 : Int32)) : Option (Int32)).bind fun s16 => (tI s4.2 v11 s4.1 s16).bind fun m17 => some (.inl ((s4.1 + (1 : Int32)), m17)))) ((0 : Int32), (rowI J 1529 W, K)) : Option (Mem)) (fun M => ∃ J', M = (rowI J' 1529 W, K) ∧ (∀ r, r ≠ 1536 → J' r = J r) ∧ ∀ s, s < 2 ^ n → J' 1536 s = md (vlV (ltV I c) n (gaV I c n) s)) := by
  have h6 := h.1
  have h64 : 2 ^ n ≤ 64 := Nat.pow_le_pow_right (n := 2) (by omega) h6
  have hpos : 0 < 2 ^ n := Nat.pow_pos (by omega)
  have r19 : ∀ J : IM, fR (rowI J 1529 W, K) 1528 19 19 = some 1536 := fun J => mo_r19 hm
  have hvb : ∀ x k, vlV (ltV I c) n (gaV I c n) x = some k → k ≤ x := vl_bd _ _ _
  refine lq1 (fun i z => ∃ J', z = (nI i, (rowI J' 1529 W, K)) ∧ (∀ r, r ≠ 1536 → J' r = J r) ∧ ∀ s, s < i → J' 1536 s = md (vlV (ltV I c) n (gaV I c n) s)) _ (2 ^ n) (lim_lt (by omega)) (Nat.zero_le _) ⟨J, rfl, fun _ _ => rfl, fun s hs => absurd hs (Nat.not_lt_zero _)⟩ ?_ ?_
  · rintro i z hi ⟨J1, rfl, hfr, hva⟩
    have hpl := pcN_le i
    have fin : ∀ x, x = md (vlV (ltV I c) n (gaV I c n) i) → E1 (some (Sum.inl (nI i + 1, (rowI (u2 J1 1536 i x) 1529 W, K))) : Option ((Int32 × Mem) ⊕ Mem)) (Sum.elim (fun z => ∃ J', z = (nI (i + 1), (rowI J' 1529 W, K)) ∧ (∀ r, r ≠ 1536 → J' r = J r) ∧ ∀ s, s < i + 1 → J' 1536 s = md (vlV (ltV I c) n (gaV I c n) s)) (fun M => ∃ J', M = (rowI J' 1529 W, K) ∧ (∀ r, r ≠ 1536 → J' r = J r) ∧ ∀ s, s < 2 ^ n → J' 1536 s = md (vlV (ltV I c) n (gaV I c n) s))) := by
      rintro _ rfl
      refine E1.ok ⟨_, Prod.ext (nI_1 i) rfl, fun r hr => by rw [u2_o _ _ _ _ hr]; exact hfr r hr, fun s hs => ?_⟩
      by_cases e : s = i
      · subst e; rw [u2_s]
      · rw [u2_n _ _ _ _ (fun z => e z.2)]; exact hva s (by omega)
    simp only [cm_ltF (show i ≤ 2 ^ n - 1 by omega) (nat_31 (n := 2 ^ n - 1) (by omega)), jbc, pc_nI i (by omega), Option.bind_some, reduceIte, if_true, if_false, Bool.false_eq_true, ck_tt]
    by_cases hp : pcN i < 2
    · have e2 : ((2 : Int32) ≤ nI (pcN i)) = False := cm_leF (b := 2) hp (by omega)
      simp only [e2, Option.bind_some, reduceIte, if_true, if_false, Bool.false_eq_true, ck_tt, r19, mp_t hm (show i < 64 by omega)]
      exact fin 0 (by rw [vl_eq, if_pos hp]; rfl)
    · have e2 : ((2 : Int32) ≤ nI (pcN i)) = True := cm_leT (b := 2) (by omega) (by omega)
      have hi0 : 0 < i := Nat.pos_of_ne_zero fun z => by rw [z] at hp; exact hp (by decide)
      have hfb := qf_bd h hi0 hi
      simp only [e2, Option.bind_some, reduceIte, if_true, if_false, Bool.false_eq_true, ck_tt, v_qS, mo_k hm, m_first h hg hW0 hm hi0 hi hva hvb (fun q k hk => (hfb q k hk).2), r19]
      have hvl := vl_eq (ltV I c) n (gaV I c n) i
      rw [if_neg hp] at hvl
      rcases fg_spec (f := qvV (vlV (ltV I c) n (gaV I c n)) (ltV I c) n i) (gaV I c n) with ⟨e, -⟩ | ⟨b, y, e, hb, hfy, -⟩
      · rw [e] at hvl ⊢
        simp (decide := true) only [show enc none = (-1 : Int32) from rfl, Option.bind_some, reduceIte, if_true, if_false, Bool.false_eq_true, ck_tt, mp_t hm (show i < 64 by omega)]
        exact fin (-1) (by rw [hvl]; rfl)
      · rw [e] at hvl ⊢
        have hb12 : b < 12 := by have := (ga_spec h hg n (Nat.le_refl n)).1; omega
        have e3 : ((0 : Int32) ≤ nI b) = True := eq_true (nI_pos' (by omega))
        simp only [show enc (some b) = nI b from rfl, e3, Option.bind_some, reduceIte, if_true, if_false, Bool.false_eq_true, ck_tt, m_asked h hg hm hb hi0 hi hva hvb, mp_t hm (show i < 64 by omega)]
        exact fin _ (by rw [hvl]; rfl)
  · rintro z ⟨J1, rfl, hfr, hva⟩
    simp only [cm_ltT (show 2 ^ n - 1 < 2 ^ n by omega) (nat_31 (n := 2 ^ n) (by omega)), Option.bind_some, reduceIte, if_true, if_false, Bool.false_eq_true, ck_tt]
    exact E1.ok ⟨J1, rfl, hfr, hva⟩
theorem r_quest (h : CRl c I W g n) (hg : g ≤ 12) (hW0 : W 0 = nI g) (hn : CNs N c) (hm : MN K) (z : Int32) :
    E2 (if z = 0 then F_Chains_fewestQuestions c (I, N) else F_Chains_firstGate c (I, N)) (F_Mo_questions 1528 z (rowI J 1529 W, K)) (fun u u' => u.1 = u'.1 ∧ (∃ I', u.2 = (I', N) ∧ ∀ r, r ≠ c + 9 → I' r = I r) ∧ ∃ J', u'.2 = (rowI J' 1529 W, K) ∧ ∀ r, r ≠ 1536 → J' r = u2 J 1528 0 0 r) := by
  have h6 := h.1
  have h64 : 2 ^ n ≤ 64 := Nat.pow_le_pow_right (n := 2) (by omega) h6
  have hpos : 0 < 2 ^ n := Nat.pow_pos (by omega)
  have hG := ga_spec h hg n (Nat.le_refl n)
  have hvb : ∀ x k, vlV (ltV I c) n (gaV I c n) x = some k → k ≤ x := vl_bd _ _ _
  have r19 : ∀ J : IM, fR (rowI J 1529 W, K) 1528 19 19 = some 1536 := fun J => mo_r19 hm
  unfold F_Mo_questions
  simp only [mw_s hm, Option.bind_some, reduceIte, if_true, if_false, Bool.false_eq_true, ck_tt, mo_r1 hm, mw_a hm (show (285 : Int32) = nI 285 from rfl) (show 285 < 2038 by omega), h.2.2.1, all_nI n (by omega)]
  refine E2.right (m_table h hg hW0 hm) ?_
  rintro _ ⟨J', rfl, hfr, hva⟩
  have hall : 2 ^ n - 1 < 2 ^ n := by omega
  have hvl := vl_eq (ltV I c) n (gaV I c n) (2 ^ n - 1)
  have hpl := pcN_le (2 ^ n - 1)
  obtain ⟨M1, xw, I1, rfl, hfrI, hvI⟩ := c_weigh h hg hn
  have h1 := h.rows hfrI
  have e3 : I1 c 3 = nI n := h1.2.1
  by_cases hz : z = 0
  · rw [if_pos hz, if_pos hz]
    unfold F_Chains_fewestQuestions
    simp only [Option.bind_some, reduceIte, if_true, if_false, Bool.false_eq_true, ck_tt, v_qS, hn.1.1, xw, ch_r2 hn, v_fI hn.1.1, e3, all_nI n (by omega), ch_f hn (show 2 ^ n - 1 < 64 by omega), hvI _ hall, r19, mp_a hm (show 2 ^ n - 1 < 64 by omega), hva _ hall]
    cases hv : vlV (ltV I c) n (gaV I c n) (2 ^ n - 1) with
    | none =>
      simp (decide := true) only [show cl none = (100 : Int32) from rfl, Option.bind_some, reduceIte, if_true, if_false, Bool.false_eq_true, ck_tt]
      exact E2.ok ⟨rfl, ⟨I1, rfl, hfrI⟩, J', rfl, hfr⟩
    | some k =>
      have := hvb _ k hv
      have e4 : (nI k < (100 : Int32)) = True := cm_ltT (b := 100) (by omega) (by omega)
      simp only [show cl (some k) = nI k from rfl, e4, Option.bind_some, reduceIte, if_true, if_false, Bool.false_eq_true, ck_tt]
      exact E2.ok ⟨rfl, ⟨I1, rfl, hfrI⟩, J', rfl, hfr⟩
  · rw [if_neg hz, if_neg hz]
    unfold F_Chains_firstGate
    simp only [Option.bind_some, reduceIte, if_true, if_false, Bool.false_eq_true, ck_tt, v_qS, hn.1.1, xw, ch_r2 hn, v_fI hn.1.1, e3, all_nI n (by omega), ch_f hn (show 2 ^ n - 1 < 64 by omega), hvI _ hall, c_gates h1 hg hn, ga_rows hfrI n, jbc, pc_nI (2 ^ n - 1) (by omega)]
    have none' : E2 (some ((-1 : Int32), ((I1, N) : Mem))) (some ((-1 : Int32), ((rowI J' 1529 W, K) : Mem))) (fun u u' => u.1 = u'.1 ∧ (∃ I', u.2 = (I', N) ∧ ∀ r, r ≠ c + 9 → I' r = I r) ∧ ∃ J', u'.2 = (rowI J' 1529 W, K) ∧ ∀ r, r ≠ 1536 → J' r = u2 J 1528 0 0 r) := E2.ok ⟨rfl, ⟨I1, rfl, hfrI⟩, J', rfl, hfr⟩
    by_cases hp : pcN (2 ^ n - 1) < 2
    · rw [if_pos hp] at hvl
      have e2 : ((2 : Int32) ≤ nI (pcN (2 ^ n - 1))) = False := cm_leF (b := 2) hp (by omega)
      simp (decide := true) only [hvl, show cl (some 0) = (0 : Int32) from rfl, e2, Option.bind_some, reduceIte, if_true, if_false, Bool.false_eq_true, ck_tt]
      exact none'
    · rw [if_neg hp] at hvl
      have hi0 : 0 < 2 ^ n - 1 := Nat.pos_of_ne_zero fun z => by rw [z] at hp; exact hp (by decide)
      have hfb := qf_bd h hi0 hall
      have e2 : ((2 : Int32) ≤ nI (pcN (2 ^ n - 1))) = True := cm_leT (b := 2) (by omega) (by omega)
      have hfrom : ∀ q, q < gaV I c n → F_Chains_questionsFrom c (nI (2 ^ n - 1)) (nI q) (I1, N) = some (cl (qvV (vlV (ltV I c) n (gaV I c n)) (ltV I c) n (2 ^ n - 1) q)) := fun q hq => by
        rw [c_from h1 hg hn (by omega) hi0 hall (v := vlV (ltV I c) n (gaV I c n)) (fun x hx => hvI x (by omega)) hvb, lt_rows hfrI]
      simp only [e2, Option.bind_some, reduceIte, if_true, if_false, Bool.false_eq_true, ck_tt, v_qS, mo_k hm, m_first h hg hW0 hm hi0 hall (fun x hx => hva x (by omega)) hvb (fun q k hk => (hfb q k hk).2)]
      rcases fg_spec (f := qvV (vlV (ltV I c) n (gaV I c n)) (ltV I c) n (2 ^ n - 1)) (gaV I c n) with ⟨e, -⟩ | ⟨b, y, e, hb, hfy, hmin⟩
      · rw [e] at hvl ⊢
        simp (decide := true) only [hvl, Option.bind_none, show cl none = (100 : Int32) from rfl, show enc none = (-1 : Int32) from rfl, Option.bind_some, reduceIte, if_true, if_false, Bool.false_eq_true, ck_tt]
        exact none'
      · rw [e] at hvl ⊢
        have hvl : vlV (ltV I c) n (gaV I c n) (2 ^ n - 1) = some y := hvl.trans hfy
        have hy := hfb b y hfy
        have e4 : (nI y < (100 : Int32)) = True := cm_ltT (b := 100) (by omega) (by omega)
        have e5 : (nI y = 0) = False := eq_false (nI_ne0 (by omega) (by omega))
        simp only [hvl, show cl (some y) = nI y from rfl, e4, e5, Option.bind_some, reduceIte, if_true, if_false, Bool.false_eq_true, ck_tt]
        refine E2.mk (P := fun u => u = (nI b, (I1, N))) ?_ ?_
        · refine lq1 (fun q s => s = nI q ∧ q ≤ b) _ (gaV I c n) (lim_lt (by have := hG.1; omega)) (Nat.zero_le _) ⟨rfl, Nat.zero_le _⟩ ?_ ?_
          · rintro q s hq ⟨rfl, hqb⟩
            simp only [cm_leF hq (nat_31 (n := gaV I c n) (by have := hG.1; omega)), Option.bind_some, reduceIte, if_true, if_false, Bool.false_eq_true, ck_tt, hfrom q hq]
            by_cases e6 : q = b
            · subst e6
              simp only [hfy, show cl (some y) = nI y from rfl, Option.bind_some, reduceIte, if_true, if_false, Bool.false_eq_true, ck_tt]
              exact E1.ok rfl
            · have hne : ¬ cl (qvV (vlV (ltV I c) n (gaV I c n)) (ltV I c) n (2 ^ n - 1) q) = nI y := fun z => by
                cases hk : qvV (vlV (ltV I c) n (gaV I c n)) (ltV I c) n (2 ^ n - 1) q with
                | none =>
                  rw [hk] at z
                  have := (nI_eq (a := 100) (b := y) (by omega) (by omega)).mp z
                  omega
                | some k =>
                  rw [hk] at z
                  have hk2 := hfb q k hk
                  have := (nI_eq (a := k) (b := y) (by omega) (by omega)).mp z
                  have := (hmin q k hq hk).2 (by omega)
                  omega
              simp only [hne, Option.bind_some, reduceIte, if_true, if_false, Bool.false_eq_true, ck_tt]
              exact E1.ok ⟨nI_1 q, by omega⟩
          · rintro s ⟨rfl, hqb⟩
            omega
        · rintro _ rfl
          exact E1.ok ⟨rfl, ⟨I1, rfl, hfrI⟩, J', rfl, hfr⟩
end CHD
