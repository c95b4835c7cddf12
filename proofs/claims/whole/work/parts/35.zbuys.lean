/-! the cheapest way: one side buys what is needed, the other tries all sets -/
section BUY
variable {a g w k v q p wt t : Nat} {I I' I2 : IM} {W W' : Nat → Int32} {N K : NM} {J : IM} {M M' : Mem} {P : List lnT}
theorem bt_tog {f : Nat → Int32} {x : Int32} {k : Nat} (hk : k < 32) : ∀ n, bt (togV f n x) k = true ↔ ∃ i, i < n ∧ bt x i = true ∧ bt (f i) k = true
  | 0 => ⟨fun h => (by rw [show togV f 0 x = 0 from rfl, bt_zero hk] at h; cases h), fun ⟨i, hi, _⟩ => absurd hi (Nat.not_lt_zero _)⟩
  | n + 1 => by
    have ih := bt_tog (f := f) (x := x) hk n
    show bt (_ ||| _) k = true ↔ _
    rw [bt_or hk, Bool.or_eq_true_iff, ih]
    constructor
    · rintro (⟨i, hi, h1, h2⟩ | h)
      · exact ⟨i, by omega, h1, h2⟩
      · by_cases hb : bt x n = true
        · rw [if_pos hb] at h; exact ⟨n, Nat.lt_succ_self _, hb, h⟩
        · rw [if_neg hb, bt_zero hk] at h; cases h
    · rintro ⟨i, hi, h1, h2⟩
      by_cases e : i = n
      · subst e; right; rw [if_pos h1]; exact h2
      · left; exact ⟨i, by omega, h1, h2⟩
theorem smV_if {x : Int32} {f : Nat → Int32} {i : Nat} : smV (fun v => if bt x v = true then f v else 0) (i + 1) = smV (fun v => if bt x v = true then f v else 0) i + (if bt x i = true then f i else 0) := rfl
/-- tolls of the gates from f on, up to q -/
def tolV (a : Nat) (I : IM) (f : Nat) : Nat → Int32
  | 0 => 0
  | q + 1 => if f ≤ q then tolV a I f q + I (a + 2) q else 0
theorem tol_le {f : Nat} : ∀ {q : Nat}, q ≤ f → tolV a I f q = 0
  | 0, _ => rfl
  | q + 1, h => if_neg (by omega)
def atN (a : Nat) (I : IM) (v : Nat) : Nat := (I (a + 4) v).toNatClampNeg
theorem atN_e (h : WR a I W g w) (hv : v < w) : I (a + 4) v = nI (atN a I v) ∧ atN a I v ≤ g := by
  obtain ⟨n, hn, e⟩ := (h.oc hv).2.2.2.1
  have h12 := h.g12
  unfold atN
  rw [e, nI_clamp (by omega)]
  exact ⟨rfl, hn⟩
theorem m_tolls (h : WR a I W g w) (hm : MN K) {f : Nat} (hf : f ≤ g) (ht : t ≤ g) : F_Mo_tolls 1528 (nI f) (nI t) (rowI J 1529 W, K) = some (tolV a I f t) := by
  have h12 := h.g12
  unfold F_Mo_tolls
  by_cases hft : f ≤ t
  · refine E1.eq (lq1 (fun i s => s = (tolV a I f i, nI i) ∧ f ≤ i) _ t (lim_lt (by omega)) hft ⟨by rw [tol_le (Nat.le_refl f)], Nat.le_refl _⟩ ?_ ?_)
    · rintro i s hi ⟨rfl, hfi⟩
      have hi12 : i < 12 := by omega
      simp only [Option.bind_some, reduceIte, if_true, if_false, Bool.false_eq_true, ck_tt, v_qS, mo_k hm, mw_f hm, mo_r1 hm, mw_gates hm, mw_walkers hm, mw_og0 hm hi12, mw_og1 hm hi12, mw_og2 hm hi12, cm_leF hi (nat_31 (n := t) (by omega)), (h.ob (show i < g by omega)).1.2.1]
      exact E1.ok ⟨Prod.ext (by show _ = if f ≤ i then _ else _; rw [if_pos hfi]) (nI_1 i), by omega⟩
    · rintro s ⟨rfl, hfi⟩
      simp only [cm_leT (Nat.le_refl t) (nat_31 (n := t) (by omega)), Option.bind_some, reduceIte, if_true, if_false, Bool.false_eq_true, ck_tt]
      exact E1.ok rfl
  · rw [tol_le (by omega)]
    refine E1.eq (lq1 (fun _ s => s = ((0 : Int32), nI f)) _ 0 (lim_lt (by omega)) (Nat.le_refl 0) rfl (fun i s hi => absurd hi (Nat.not_lt_zero _)) ?_)
    rintro s rfl
    simp only [cm_leT (show t ≤ f by omega) (nat_31 (n := f) (by omega)), Option.bind_some, reduceIte, if_true, if_false, Bool.false_eq_true, ck_tt]
    exact E1.ok rfl
/-- walker v's way up to t is no closed one -/
def wayV (a : Nat) (I : IM) (t v : Nat) : Prop := ∀ q, atN a I v ≤ q → q < t → shutV a I v q = false
/-- what is asked for on the ways of x, of the first n walkers -/
def wantV (a : Nat) (I : IM) (g t : Nat) (x : Int32) (n k : Nat) : Prop := ∃ v, v < n ∧ bt x v = true ∧ ∃ q, atN a I v ≤ q ∧ q < t ∧ bt (askV a I g q) k = true
theorem c_needs (h : WR a I W g w) (hn : WN N a) (ht : t ≤ g) (x : Int32) :
    E1 (loopN LIM (fun s1 : Int32 × Int32 × Int32 => (fI (I, N) a 17 4).bind fun v2 => if v2 ≤ s1.2.2 then (some (.inr (.inl (s1.1, s1.2.1)))) else (if ((x >>> (s1.2.2 &&& 31)) &&& (1 : Int32)) = (1 : Int32) then ((fR (I, N) a 17 5).bind fun v5 => (aI (I, N) v5 s1.2.2).bind fun v6 => loopN LIM (fun s7 : Int32 × Int32 × Int32 => (if (nI t) ≤ s7.2.2 then (some false) else ((fI (I, N) a 17 0).bind fun v10 => if v10 ≤ s7.2.2 then (some false) else (some true)) : Option Bool).bind fun b9 => if b9 = true then ((F_World_isClosedTo a s1.2.2 s7.2.2 (I, N)).bind fun v12 => if v12 = 0 then ((F_World_asked a s7.2.2 (I, N)).bind fun v14 => (fR (I, N) a 17 2).bind fun v15 => (aI (I, N) v15 s7.2.2).bind fun v16 => some (.inl ((s7.1 ||| v14), (s7.2.1 + v16), (s7.2.2 + (1 : Int32))))) else (some (.inr (.inr (.inr ((-1 : Int32))))))) else (some (.inr (.inl (s7.1, s7.2.1, (s1.2.2 + (1 : Int32))))))) (s1.1, s1.2.1, v6)) else (some (.inl (s1.1, s1.2.1, (s1.2.2 + (1 : Int32))))))) ((0 : Int32), (0 : Int32), (0 : Int32)) : Option ((Int32 × Int32) ⊕ Int32))
      (fun r => (∃ need, r = .inl (need, smV (fun v => if bt x v = true then tolV a I (atN a I v) t else 0) w) ∧ (∀ k, k < 32 → (bt need k = true ↔ wantV a I g t x w k)) ∧ ∀ v, v < w → bt x v = true → wayV a I t v) ∨ (r = .inr (-1) ∧ ∃ v, v < w ∧ bt x v = true ∧ ¬ wayV a I t v)) := by
  have h8 := h.w8
  have h12 := h.g12
  refine lq1 (fun i s => ∃ need, s = (need, smV (fun v => if bt x v = true then tolV a I (atN a I v) t else 0) i, nI i) ∧ (∀ k, k < 32 → (bt need k = true ↔ wantV a I g t x i k)) ∧ ∀ v, v < i → bt x v = true → wayV a I t v) _ w (lim_lt (by omega)) (Nat.zero_le _) ⟨0, rfl, fun k hk => ⟨fun z => (by rw [bt_zero hk] at z; cases z), fun ⟨v, hv, _⟩ => absurd hv (Nat.not_lt_zero _)⟩, fun v hv => absurd hv (Nat.not_lt_zero _)⟩ ?_ ?_
  · rintro i s hi ⟨need, rfl, hneed, hway⟩
    have hi8 : i < 8 := by omega
    obtain ⟨he, heg⟩ := atN_e h hi
    simp only [Option.bind_some, reduceIte, if_true, if_false, Bool.false_eq_true, ck_tt, v_qS, wa_k hn, wa_f hn, wa_s hn, wa_r1 hn, wa_r2 hn, wa_r3 hn, wa_r5 hn, wa_r6 hn, wa_r7 hn, wa_r8 hn, wa_r9 hn, wa_r10 hn, wa_r11 hn, wa_w4 hn hi8, wa_w5 hn hi8, wa_w6 hn hi8, wa_w7 hn hi8, wa_w8 hn hi8, wa_t4 hn hi8, wa_t5 hn hi8, wa_t6 hn hi8, wa_t7 hn hi8, wa_t8 hn hi8, wa_q9 hn hi8, wa_q18 hn hi8, h.wa, cm_leF hi (nat_31 (n := w) (by omega)), bt_iff, he]
    cases hb : bt x i with
    | false =>
      simp only [Option.bind_some, reduceIte, if_true, if_false, Bool.false_eq_true, ck_tt]
      refine E1.ok ⟨need, Prod.ext rfl (Prod.ext (by rw [smV_if, hb]; exact (Int32.add_zero _).symm) (nI_1 i)), fun k hk => ?_, fun v hv hbv => ?_⟩
      · rw [hneed k hk]
        constructor
        · rintro ⟨v, hv, r⟩; exact ⟨v, by omega, r⟩
        · rintro ⟨v, hv, hbv, r⟩
          by_cases e : v = i
          · rw [e, hb] at hbv; cases hbv
          · exact ⟨v, by omega, hbv, r⟩
      · by_cases e : v = i
        · rw [e, hb] at hbv; cases hbv
        · exact hway v (by omega) hbv
    | true =>
      simp only [Option.bind_some, reduceIte, if_true, if_false, Bool.false_eq_true, ck_tt]
      generalize hn0 : atN a I i = n at he heg ⊢
      generalize hc0 : smV (fun v => if bt x v = true then tolV a I (atN a I v) t else 0) i = c0
      have endS : ∀ need', (∀ k, k < 32 → (bt need' k = true ↔ bt need k = true ∨ ∃ q, n ≤ q ∧ q < t ∧ bt (askV a I g q) k = true)) → (∀ q, n ≤ q → q < t → shutV a I i q = false) → E1 (some (Sum.inr (Sum.inl (need', c0 + tolV a I n t, nI i + 1))) : Option ((Int32 × Int32 × Int32) ⊕ ((Int32 × Int32 × Int32) ⊕ ((Int32 × Int32) ⊕ Int32)))) (Sum.elim (fun _ => False) (Sum.elim (fun s => ∃ need, s = (need, smV (fun v => if bt x v = true then tolV a I (atN a I v) t else 0) (i + 1), nI (i + 1)) ∧ (∀ k, k < 32 → (bt need k = true ↔ wantV a I g t x (i + 1) k)) ∧ ∀ v, v < i + 1 → bt x v = true → wayV a I t v) (fun r => (∃ need, r = Sum.inl (need, smV (fun v => if bt x v = true then tolV a I (atN a I v) t else 0) w) ∧ (∀ k, k < 32 → (bt need k = true ↔ wantV a I g t x w k)) ∧ ∀ v, v < w → bt x v = true → wayV a I t v) ∨ (r = Sum.inr (-1) ∧ ∃ v, v < w ∧ bt x v = true ∧ ¬ wayV a I t v)))) := by
        intro need' h1 h2
        refine E1.ok ⟨need', Prod.ext rfl (Prod.ext ?_ (nI_1 i)), fun k hk => ?_, fun v hv hbv => ?_⟩
        · rw [smV_if, hc0, hb, if_pos rfl, hn0]
        · rw [h1 k hk, hneed k hk]
          constructor
          · rintro (⟨v, hv, r⟩ | ⟨q, r⟩)
            · exact ⟨v, by omega, r⟩
            · exact ⟨i, Nat.lt_succ_self _, hb, q, by rw [hn0]; exact r⟩
          · rintro ⟨v, hv, hbv, q, r⟩
            by_cases e : v = i
            · subst e; rw [hn0] at r; exact Or.inr ⟨q, r⟩
            · exact Or.inl ⟨v, by omega, hbv, q, r⟩
        · by_cases e : v = i
          · subst e; unfold wayV; rw [hn0]; exact h2
          · exact hway v (by omega) hbv
      by_cases hnt : n ≤ t
      · refine lq1 (fun q s => n ≤ q ∧ ∃ need', s = (need', c0 + tolV a I n q, nI q) ∧ (∀ k, k < 32 → (bt need' k = true ↔ bt need k = true ∨ ∃ q', n ≤ q' ∧ q' < q ∧ bt (askV a I g q') k = true)) ∧ ∀ q', n ≤ q' → q' < q → shutV a I i q' = false) _ t (lim_lt (by omega)) hnt ⟨Nat.le_refl _, need, by rw [tol_le (Nat.le_refl n), Int32.add_zero], fun k hk => ⟨Or.inl, fun z => z.elim id fun ⟨q, r1, r2, _⟩ => by omega⟩, fun q r1 r2 => by omega⟩ ?_ ?_
        · rintro q s hq ⟨hnq, need', rfl, h1, h2⟩
          have hqg : q < g := by omega
          have hq12 : q < 12 := by omega
          simp only [Option.bind_some, reduceIte, if_true, if_false, Bool.false_eq_true, ck_tt, v_qS, wa_k hn, wa_f hn, wa_s hn, wa_r1 hn, wa_r2 hn, wa_r3 hn, wa_r5 hn, wa_r6 hn, wa_r7 hn, wa_r8 hn, wa_r9 hn, wa_r10 hn, wa_r11 hn, wa_g1 hn hq12, wa_g2 hn hq12, wa_g3 hn hq12, wa_h1 hn hq12, wa_h2 hn hq12, wa_h3 hn hq12, h.ga, cm_leF hq (nat_31 (n := t) (by omega)), cm_leF hqg (nat_31 (n := g) (by omega)), c_shut h hn hqg, c_ask h hn hqg]
          cases hs : shutV a I i q with
          | true =>
            simp only [Option.bind_some, reduceIte, if_true, if_false, Bool.false_eq_true, ck_tt, i32_10]
            refine E1.ok (Or.inr ⟨rfl, i, hi, hb, fun z => ?_⟩)
            have := z q (by rw [hn0]; exact hnq) hq
            rw [hs] at this; cases this
          | false =>
            simp only [Option.bind_some, reduceIte, if_true, if_false, Bool.false_eq_true, ck_tt, i32_00]
            refine E1.ok ⟨by omega, _, Prod.ext rfl (Prod.ext ?_ (nI_1 q)), fun k hk => ?_, fun q' r1 r2 => ?_⟩
            · show _ = c0 + (if n ≤ q then tolV a I n q + I (a + 2) q else 0)
              rw [if_pos hnq, Int32.add_assoc]
            · rw [bt_or hk, Bool.or_eq_true_iff, h1 k hk]
              constructor
              · rintro ((z | ⟨q', r1, r2, r3⟩) | z)
                · exact Or.inl z
                · exact Or.inr ⟨q', r1, by omega, r3⟩
                · exact Or.inr ⟨q, hnq, by omega, z⟩
              · rintro (z | ⟨q', r1, r2, r3⟩)
                · exact Or.inl (Or.inl z)
                · by_cases e : q' = q
                  · subst e; exact Or.inr r3
                  · exact Or.inl (Or.inr ⟨q', r1, by omega, r3⟩)
            · by_cases e : q' = q
              · subst e; exact hs
              · exact h2 q' r1 (by omega)
        · rintro s ⟨hnq, need', rfl, h1, h2⟩
          simp only [Option.bind_some, reduceIte, if_true, if_false, Bool.false_eq_true, ck_tt, cm_leT (Nat.le_refl t) (nat_31 (n := t) (by omega))]
          exact endS need' h1 h2
      · refine lq1 (fun _ s => s = (need, c0 + tolV a I n t, nI n)) _ 0 (lim_lt (by omega)) (Nat.le_refl 0) (by rw [tol_le (show t ≤ n by omega), Int32.add_zero]) (fun i s hi => absurd hi (Nat.not_lt_zero _)) ?_
        rintro s rfl
        simp only [Option.bind_some, reduceIte, if_true, if_false, Bool.false_eq_true, ck_tt, cm_leT (show t ≤ n by omega) (nat_31 (n := n) (by omega))]
        exact endS need (fun k hk => ⟨Or.inl, fun z => z.elim id fun ⟨q, r1, r2, _⟩ => by omega⟩) (fun q r1 r2 => by omega)
  · rintro s ⟨need, rfl, hneed, hway⟩
    simp only [Option.bind_some, reduceIte, if_true, if_false, Bool.false_eq_true, ck_tt, v_qS, wa_k hn, wa_f hn, wa_s hn, wa_r1 hn, wa_r2 hn, wa_r3 hn, wa_r5 hn, wa_r6 hn, wa_r7 hn, wa_r8 hn, wa_r9 hn, wa_r10 hn, wa_r11 hn, h.wa, cm_leT (Nat.le_refl w) (nat_31 (n := w) (by omega))]
    exact E1.ok (Or.inl ⟨need, rfl, hneed, hway⟩)
/-- all of x come to t, y being had -/
def okV (a : Nat) (I : IM) (g t : Nat) (y : Int32) (v : Nat) : Prop := ∀ q, atN a I v ≤ q → q < t → shutV a I v q = false ∧ opV a I g q y = true
theorem m_comes (h : WR a I W g w) (hm : MN K) (ht : t ≤ g) (x y : Int32) :
    E1 (F_Mo_comes 1528 x (nI t) y (rowI J 1529 W, K)) (fun u => (u = 1 ∧ ∀ v, v < w → bt x v = true → okV a I g t y v) ∨ (u = 0 ∧ ∃ v, v < w ∧ bt x v = true ∧ ¬ okV a I g t y v)) := by
  have h8 := h.w8
  have h12 := h.g12
  unfold F_Mo_comes
  refine lq1 (fun i s => s.2 = nI i ∧ ((s.1 = 1 ∧ ∀ v, v < i → bt x v = true → okV a I g t y v) ∨ (s.1 = 0 ∧ ∃ v, v < i ∧ bt x v = true ∧ ¬ okV a I g t y v))) _ w (lim_lt (by omega)) (Nat.zero_le _) ⟨rfl, Or.inl ⟨rfl, fun v hv => absurd hv (Nat.not_lt_zero _)⟩⟩ ?_ ?_
  · rintro i ⟨b, c⟩ hi ⟨e, hs⟩
    have e : c = nI i := e
    subst e
    have hi8 : i < 8 := by omega
    obtain ⟨he, heg⟩ := atN_e h hi
    simp only [Option.bind_some, reduceIte, if_true, if_false, Bool.false_eq_true, ck_tt, v_qS, mo_k hm, mw_f hm, mo_r1 hm, mw_gates hm, mw_walkers hm, mw_of0 hm hi8, mw_of1 hm hi8, mw_of2 hm hi8, mw_of3 hm hi8, mw_of4 hm hi8, mw_of5 hm hi8, mw_st0 hm hi8, mw_st1 hm hi8, mw_st2 hm hi8, mw_st3 hm hi8, mw_st4 hm hi8, mw_st5 hm hi8, h.wb, cm_leF hi (nat_31 (n := w) (by omega)), (h.oc hi).1.1, he]
    generalize hn0 : atN a I i = n at he heg ⊢
    rcases hs with ⟨hb1, hall⟩ | ⟨hb0, v0, hv0, hx0, hno⟩
    · have hb1 : b = 1 := hb1
      subst hb1
      have done1 : (bt x i = true → okV a I g t y i) → Sum.elim (fun _ => False) (Sum.elim (fun s : Int32 × Int32 => s.2 = nI (i + 1) ∧ ((s.1 = 1 ∧ ∀ v, v < i + 1 → bt x v = true → okV a I g t y v) ∨ (s.1 = 0 ∧ ∃ v, v < i + 1 ∧ bt x v = true ∧ ¬ okV a I g t y v))) (fun u => (u = 1 ∧ ∀ v, v < w → bt x v = true → okV a I g t y v) ∨ (u = 0 ∧ ∃ v, v < w ∧ bt x v = true ∧ ¬ okV a I g t y v))) (Sum.inr (Sum.inl ((1 : Int32), nI i + 1)) : (Int32 × Int32) ⊕ ((Int32 × Int32) ⊕ Int32)) := fun z => ⟨nI_1 i, Or.inl ⟨rfl, fun v hv hbv => (by
        by_cases e : v = i
        · subst e; exact z hbv
        · exact hall v (by omega) hbv)⟩⟩
      cases hbx : bt x i with
      | false =>
        refine lq1 (fun _ s => s = ((1 : Int32), nI n)) _ 0 (lim_lt (by omega)) (Nat.le_refl 0) rfl (fun i s hi => absurd hi (Nat.not_lt_zero _)) ?_
        rintro s rfl
        have dd := done1 (fun z => by rw [hbx] at z; cases z)
        by_cases hc : nI t ≤ nI n
        · simp only [hc, Option.bind_some, reduceIte, if_true, if_false, Bool.false_eq_true, ck_tt]
          exact E1.ok dd
        · simp only [hc, Option.bind_some, reduceIte, if_true, if_false, Bool.false_eq_true, ck_tt, i32_10, mo_has rfl, hbx, i32_00]
          exact E1.ok dd
      | true =>
        by_cases hnt : n ≤ t
        · refine lq1 (fun q s => n ≤ q ∧ s.2 = nI q ∧ ((s.1 = 1 ∧ ∀ q', n ≤ q' → q' < q → shutV a I i q' = false ∧ opV a I g q' y = true) ∨ (s.1 = 0 ∧ ¬ okV a I g t y i))) _ t (lim_lt (by omega)) hnt ⟨Nat.le_refl _, rfl, Or.inl ⟨rfl, fun q r1 r2 => by omega⟩⟩ ?_ ?_
          · rintro q ⟨b, c⟩ hq ⟨hnq, e, hs⟩
            have e : c = nI q := e
            subst e
            have hqg : q < g := by omega
            rcases hs with ⟨hb1, hall'⟩ | ⟨hb0, hno⟩
            · have hb1 : b = 1 := hb1
              subst hb1
              simp only [Option.bind_some, reduceIte, if_true, if_false, Bool.false_eq_true, ck_tt, cm_leF hq (nat_31 (n := t) (by omega)), i32_10, mo_has rfl, hbx, m_shut h hm hqg, m_opens h hm hqg]
              cases hs : shutV a I i q with
              | true =>
                simp only [Option.bind_some, reduceIte, if_true, if_false, Bool.false_eq_true, ck_tt, i32_10]
                refine E1.ok ⟨by omega, nI_1 q, Or.inr ⟨rfl, fun z => ?_⟩⟩
                have := (z q (by rw [hn0]; exact hnq) hq).1
                rw [hs] at this; cases this
              | false =>
                cases ho : opV a I g q y with
                | false =>
                  simp only [Option.bind_some, reduceIte, if_true, if_false, Bool.false_eq_true, ck_tt, i32_00]
                  refine E1.ok ⟨by omega, nI_1 q, Or.inr ⟨rfl, fun z => ?_⟩⟩
                  have := (z q (by rw [hn0]; exact hnq) hq).2
                  rw [ho] at this; cases this
                | true =>
                  simp only [Option.bind_some, reduceIte, if_true, if_false, Bool.false_eq_true, ck_tt, i32_00, i32_10]
                  refine E1.ok ⟨by omega, nI_1 q, Or.inl ⟨rfl, fun q' r1 r2 => ?_⟩⟩
                  by_cases e : q' = q
                  · subst e; exact ⟨hs, ho⟩
                  · exact hall' q' r1 (by omega)
            · have hb0 : b = 0 := hb0
              subst hb0
              simp only [Option.bind_some, reduceIte, if_true, if_false, Bool.false_eq_true, ck_tt, cm_leF hq (nat_31 (n := t) (by omega)), i32_00]
              exact E1.ok ⟨nI_1 i, Or.inr ⟨rfl, i, Nat.lt_succ_self _, hbx, hno⟩⟩
          · rintro ⟨b, c⟩ ⟨hnq, e, hs⟩
            have e : c = nI t := e
            subst e
            simp only [Option.bind_some, reduceIte, if_true, if_false, Bool.false_eq_true, ck_tt, cm_leT (Nat.le_refl t) (nat_31 (n := t) (by omega))]
            rcases hs with ⟨hb1, hall'⟩ | ⟨hb0, hno⟩
            · have hb1 : b = 1 := hb1
              subst hb1
              exact E1.ok (done1 fun _ q r1 r2 => hall' q (by rw [← hn0]; exact r1) r2)
            · have hb0 : b = 0 := hb0
              subst hb0
              exact E1.ok ⟨nI_1 i, Or.inr ⟨rfl, i, Nat.lt_succ_self _, hbx, hno⟩⟩
        · refine lq1 (fun _ s => s = ((1 : Int32), nI n)) _ 0 (lim_lt (by omega)) (Nat.le_refl 0) rfl (fun i s hi => absurd hi (Nat.not_lt_zero _)) ?_
          rintro s rfl
          simp only [Option.bind_some, reduceIte, if_true, if_false, Bool.false_eq_true, ck_tt, cm_leT (show t ≤ n by omega) (nat_31 (n := n) (by omega))]
          exact E1.ok (done1 fun _ q r1 r2 => by rw [hn0] at r1; omega)
    · have hb0 : b = 0 := hb0
      subst hb0
      refine lq1 (fun _ s => s = ((0 : Int32), nI n)) _ 0 (lim_lt (by omega)) (Nat.le_refl 0) rfl (fun i s hi => absurd hi (Nat.not_lt_zero _)) ?_
      rintro s rfl
      by_cases hc : nI t ≤ nI n
      · simp only [hc, Option.bind_some, reduceIte, if_true, if_false, Bool.false_eq_true, ck_tt]
        exact E1.ok ⟨nI_1 i, Or.inr ⟨rfl, v0, by omega, hx0, hno⟩⟩
      · simp only [hc, Option.bind_some, reduceIte, if_true, if_false, Bool.false_eq_true, ck_tt, i32_00]
        exact E1.ok ⟨nI_1 i, Or.inr ⟨rfl, v0, by omega, hx0, hno⟩⟩
  · rintro ⟨b, c⟩ ⟨e, hs⟩
    have e : c = nI w := e
    subst e
    simp only [Option.bind_some, reduceIte, if_true, if_false, Bool.false_eq_true, ck_tt, v_qS, mo_k hm, mw_f hm, mo_r1 hm, mw_gates hm, mw_walkers hm, h.wb, cm_leT (Nat.le_refl w) (nat_31 (n := w) (by omega))]
    rcases hs with ⟨hb1, hall⟩ | ⟨hb0, hno⟩
    · have hb1 : b = 1 := hb1
      subst hb1
      simp (decide := true) only [Option.bind_some, reduceIte, if_true, if_false, Bool.false_eq_true, ck_tt]
      exact E1.ok (Or.inl ⟨rfl, hall⟩)
    · have hb0 : b = 0 := hb0
      subst hb0
      simp (decide := true) only [Option.bind_some, reduceIte, if_true, if_false, Bool.false_eq_true, ck_tt]
      exact E1.ok (Or.inr ⟨rfl, hno⟩)
end BUY
