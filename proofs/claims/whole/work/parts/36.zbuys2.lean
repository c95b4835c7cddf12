/-! the cheapest way, further: all sets tried; both sides' answers -/
section BUY2
variable {a g w k v q p wt t : Nat} {I I' I2 : IM} {W W' : Nat → Int32} {N K : NM} {J : IM} {M M' : Mem} {P : List lnT}
def pN (a : Nat) (I : IM) (w : Nat) (X : Int32) (q : Nat) : Nat := match selrV a I w q X with
  | none => 0
  | some s => (I (a + 19 + s) q).toNatClampNeg
theorem pN_some (h : WR a I W g w) (hq : q < 12) {X : Int32} {s : Nat} (e : selrV a I w q X = some s) : I (a + 19 + s) q = nI (pN a I w X q) ∧ pN a I w X q ≤ 99 ∧ s < w := by
  have h1 := selV_lt e
  have h2 : slB a I s q = true := (Bool.and_eq_true_iff.mp h1.2).2
  unfold pN
  rw [e]
  rcases (h.oc h1.1).2.2.2.2.2.2.1 q hq with e1 | ⟨n, hn, e1⟩
  · unfold slB at h2
    rw [e1] at h2
    simp at h2
  · show _ = nI (I (a + 19 + s) q).toNatClampNeg ∧ (I (a + 19 + s) q).toNatClampNeg ≤ 99 ∧ _
    rw [e1, nI_clamp (by omega)]
    exact ⟨rfl, hn, h1.1⟩
def SN (a : Nat) (I : IM) (w : Nat) (X : Int32) (its : Nat) : Nat → Nat
  | 0 => 0
  | q + 1 => SN a I w X its q + if its.testBit q = true then pN a I w X q else 0
theorem pN_le (h : WR a I W g w) (hq : q < 12) {X : Int32} : pN a I w X q ≤ 99 := by
  cases e : selrV a I w q X with
  | none => unfold pN; rw [e]; exact Nat.zero_le _
  | some s => exact (pN_some h hq e).2.1
theorem SN_le (h : WR a I W g w) {X : Int32} {its : Nat} : ∀ n, n ≤ 12 → SN a I w X its n ≤ 99 * n
  | 0, _ => Nat.le_refl _
  | n + 1, hn => by
    have h1 := SN_le h (X := X) (its := its) n (by omega)
    have h2 := pN_le h (show n < 12 by omega) (X := X)
    show _ + _ ≤ _
    by_cases e : its.testBit n = true
    · rw [if_pos e]; omega
    · rw [if_neg e]; omega
theorem SN_mono {X : Int32} {m its : Nat} (hs : ∀ k, m.testBit k = true → its.testBit k = true) : ∀ n, SN a I w X m n ≤ SN a I w X its n
  | 0 => Nat.le_refl _
  | n + 1 => by
    have h1 := SN_mono (X := X) hs n
    show _ + _ ≤ _ + _
    by_cases e : m.testBit n = true
    · rw [if_pos e, if_pos (hs n e)]; omega
    · rw [if_neg e]; omega
theorem bdS_l {V T : Type} (v : V) (K : V → Option T) : bdS (some (.inl v)) K = K v := rfl
theorem bdS_r {V T : Type} (o : T) (K : V → Option T) : bdS (some (.inr o)) K = some o := rfl
theorem e4096 : 2 ^ 12 = 4096 := by decide
theorem bp1 (J : IM) (b b' pr : Int32) : u2 (u2 (u2 J 1528 17 b) 1528 18 pr) 1528 17 b' = u2 (u2 J 1528 17 b') 1528 18 pr := by
  refine funext fun c => funext fun j => ?_
  by_cases e1 : c = 1528 ∧ j = 17
  · rw [e1.1, e1.2, u2_s, u2_n _ _ _ _ (by omega), u2_s]
  · rw [u2_n _ _ _ _ e1]
    by_cases e2 : c = 1528 ∧ j = 18
    · rw [e2.1, e2.2, u2_s, u2_s]
    · rw [u2_n _ _ _ _ e2, u2_n _ _ _ _ e2, u2_n _ _ _ _ e1, u2_n _ _ _ _ e1]
theorem bp2 (J : IM) (c k : Nat) (x y : Int32) : u2 (u2 J c k x) c k y = u2 J c k y := by
  refine funext fun d => funext fun j => ?_
  by_cases e : d = c ∧ j = k
  · rw [e.1, e.2, u2_s, u2_s]
  · rw [u2_n _ _ _ _ e, u2_n _ _ _ _ e, u2_n _ _ _ _ e]
/-- what can be bought, of the first n gates -/
def canS (a : Nat) (I : IM) (w : Nat) (X T : Int32) : Nat → Int32
  | 0 => 0
  | q + 1 => canS a I w X T q ||| if bt T q = false ∧ selrV a I w q X ≠ none then (1 : Int32) <<< (nI q &&& 31) else 0
theorem bt_can {X T : Int32} {k : Nat} (hk : k < 32) : ∀ n, n ≤ 32 → (bt (canS a I w X T n) k = true ↔ k < n ∧ bt T k = false ∧ selrV a I w k X ≠ none)
  | 0, _ => ⟨fun z => (by rw [show canS a I w X T 0 = 0 from rfl, bt_zero hk] at z; cases z), fun z => absurd z.1 (Nat.not_lt_zero _)⟩
  | n + 1, hn => by
    have ih := bt_can (X := X) (T := T) hk n (by omega)
    show bt (_ ||| _) k = true ↔ _
    rw [bt_or hk, Bool.or_eq_true_iff, ih]
    by_cases e : bt T n = false ∧ selrV a I w n X ≠ none
    · rw [if_pos e, bt_shl (by omega) hk, decide_eq_true_iff]
      constructor
      · rintro (⟨z, z2⟩ | rfl)
        · exact ⟨by omega, z2⟩
        · exact ⟨Nat.lt_succ_self _, e⟩
      · rintro ⟨z, z2⟩
        by_cases e2 : k = n
        · exact Or.inr e2
        · exact Or.inl ⟨by omega, z2⟩
    · rw [if_neg e, bt_zero hk]
      constructor
      · rintro (⟨z, z2⟩ | z)
        · exact ⟨by omega, z2⟩
        · cases z
      · rintro ⟨z, z2⟩
        by_cases e2 : k = n
        · subst e2; exact absurd z2 e
        · exact Or.inl ⟨by omega, z2⟩
theorem okV_iff {y : Int32} {X : Int32} : (∀ v, v < w → bt X v = true → okV a I g t y v) ↔ (∀ v, v < w → bt X v = true → wayV a I t v) ∧ ∀ k, k < 32 → wantV a I g t X w k → bt y k = true := by
  constructor
  · intro h
    refine ⟨fun v hv hb q r1 r2 => (h v hv hb q r1 r2).1, fun k hk => ?_⟩
    rintro ⟨v, hv, hb, q, r1, r2, r3⟩
    exact bt_sub.mp (of_decide_eq_true (h v hv hb q r1 r2).2) k hk r3
  · rintro ⟨h1, h2⟩ v hv hb q r1 r2
    refine ⟨h1 v hv hb q r1 r2, ?_⟩
    unfold opV
    exact decide_eq_true (bt_sub.mpr fun k hk hk2 => h2 k hk ⟨v, hv, hb, q, r1, r2, hk2⟩)
theorem m_buys (h : WR a I W g w) (hm : MN K) (ht : t ≤ g) (X : Int32) {B : Int32} {R : Int32 → Int32 → Prop}
    (hR : ∀ cN, cN < 4096 → (∀ k, cN.testBit k = true ↔ k < g ∧ bt (togV (I (a + 7)) w X) k = false ∧ selrV a I w k X ≠ none) →
      ((∀ its, its < 4096 → (∀ k, its.testBit k = true → cN.testBit k = true) → ¬ ((∀ v, v < w → bt X v = true → wayV a I t v) ∧ ∀ k, k < 32 → wantV a I g t X w k → bt (togV (I (a + 7)) w X) k = true ∨ its.testBit k = true)) ∧ R (-1) (-1)) ∨
      ∃ m, m < 4096 ∧ (∀ k, m.testBit k = true → cN.testBit k = true) ∧ (∀ its, its < 4096 → (∀ k, its.testBit k = true → cN.testBit k = true) → (((∀ v, v < w → bt X v = true → wayV a I t v) ∧ ∀ k, k < 32 → wantV a I g t X w k → bt (togV (I (a + 7)) w X) k = true ∨ its.testBit k = true) ↔ ∀ k, m.testBit k = true → its.testBit k = true)) ∧ R (nI m) (nI (SN a I w X m g))) :
    E1 (F_Mo_buys 1528 X (nI t) (rowI J 1529 W, K)) (fun M' => ∃ b pr, M' = (rowI (u2 (u2 J 1528 17 b) 1528 18 pr) 1529 W, K) ∧ R b pr) := by
  have h8 := h.w8
  have h12 := h.g12
  unfold F_Mo_buys
  obtain ⟨L, hL⟩ : ∃ L, L = LIM := ⟨_, rfl⟩
  rw [← hL]
  simp only [Option.bind_some, reduceIte, if_true, if_false, Bool.false_eq_true, ck_tt, v_qS, mo_k hm, mw_f hm, mo_r1 hm, mw_gates hm, mw_walkers hm, m_tog h hm]
  generalize hT : togV (I (a + 7)) w X = T at hR
  refine E1.bind (P := fun c => c = canS a I w X T g) ?_ ?_
  · refine lq1L hL (fun i s => s = (canS a I w X T i, nI i)) _ g (lim_lt (by omega)) (Nat.zero_le _) rfl ?_ ?_
    · rintro i s hi rfl
      have hi12 : i < 12 := by omega
      have hlt2 : ∀ m, selrV a I w i X = some m → m < w := fun m e => (selV_lt e).1
      simp only [Option.bind_some, reduceIte, if_true, if_false, Bool.false_eq_true, ck_tt, v_qS, mo_k hm, mw_f hm, mo_r1 hm, mw_gates hm, mw_walkers hm, h.gb, cm_leF hi (nat_31 (n := g) (by omega)), mo_has rfl, m_selr h hm hi12, enc_neg (x := selrV a I w i X) (fun m e => by have := hlt2 m e; omega)]
      cases hb : bt T i with
      | true =>
        simp only [Option.bind_some, reduceIte, if_true, if_false, Bool.false_eq_true, ck_tt, i32_10]
        refine E1.ok (Prod.ext ?_ (nI_1 i))
        show _ = _ ||| (if bt T i = false ∧ selrV a I w i X ≠ none then _ else _)
        rw [if_neg (fun z => by rw [hb] at z; cases z.1)]
      | false =>
        by_cases hs : selrV a I w i X = none
        · simp only [Option.bind_some, reduceIte, if_true, if_false, Bool.false_eq_true, ck_tt, i32_00, hs]
          refine E1.ok (Prod.ext ?_ (nI_1 i))
          show _ = _ ||| (if bt T i = false ∧ selrV a I w i X ≠ none then _ else _)
          rw [if_neg (fun z => z.2 hs)]
        · simp only [Option.bind_some, reduceIte, if_true, if_false, Bool.false_eq_true, ck_tt, i32_00, hs]
          refine E1.ok (Prod.ext ?_ (nI_1 i))
          show _ = _ ||| (if bt T i = false ∧ selrV a I w i X ≠ none then _ else _)
          rw [if_pos ⟨hb, hs⟩]
    · rintro s rfl
      simp only [Option.bind_some, reduceIte, if_true, if_false, Bool.false_eq_true, ck_tt, v_qS, mo_k hm, mw_f hm, mo_r1 hm, mw_gates hm, mw_walkers hm, h.gb, cm_leT (Nat.le_refl g) (nat_31 (n := g) (by omega))]
      exact E1.ok rfl
  · rintro _ rfl
    simp only [mw_s hm, Option.bind_some, reduceIte, if_true, if_false, Bool.false_eq_true, ck_tt]
    obtain ⟨cN, hcN, ecN⟩ := bt_num (x := canS a I w X T g) (n := 12) (by omega) (fun k h1 h2 => by
      cases hz : bt (canS a I w X T g) k with
      | false => rfl
      | true =>
        have := (bt_can h2 g (by omega)).mp hz
        omega)
    rw [e4096] at hcN
    have hbits : ∀ k, cN.testBit k = true ↔ k < g ∧ bt T k = false ∧ selrV a I w k X ≠ none := by
      intro k
      by_cases hk : k < 32
      · rw [← bt_nI hk, ← ecN]; exact bt_can hk g (by omega)
      · constructor
        · intro z
          rw [Nat.testBit_lt_two_pow (Nat.lt_of_lt_of_le hcN (show 4096 ≤ 2 ^ k from Nat.le_trans (Nat.le_of_eq e4096.symm) (Nat.pow_le_pow_right (by omega) (by omega))))] at z
          cases z
        · rintro ⟨z, -⟩; omega
    rw [ecN]
    have hR := hR cN hcN hbits
    have sums : ∀ (i : Nat) (J1 : IM), i < 4096 → (∀ k, i.testBit k = true → cN.testBit k = true) → E1 (loopN L (fun s21 : Int32 × Int32 => (F_Mo_gates 1528 (rowI J1 1529 W, K)).bind fun v22 => if v22 ≤ s21.2 then (some (.inr (s21.1))) else ((F_Mo_has (nI i) s21.2 (rowI J1 1529 W, K)).bind fun v24 => (if v24 = 0 then (some (0 : Int32)) else ((F_Mo_sellerOf 1528 s21.2 X (rowI J1 1529 W, K)).bind fun v26 => (F_Mo_of 1528 v26 ((18 : Int32) + s21.2) (rowI J1 1529 W, K)).bind fun v27 => some (v27)) : Option (Int32)).bind fun s28 => some (.inl ((s21.1 + s28), (s21.2 + (1 : Int32)))))) ((0 : Int32), (0 : Int32)) : Option (Int32)) (fun s => s = nI (SN a I w X i g)) := by
      intro i J1 hi4 hsub
      refine lq1L hL (fun q s => s = (nI (SN a I w X i q), nI q)) _ g (lim_lt (by omega)) (Nat.zero_le _) rfl ?_ ?_
      · rintro q s hq rfl
        have hq12 : q < 12 := by omega
        simp only [Option.bind_some, reduceIte, if_true, if_false, Bool.false_eq_true, ck_tt, v_qS, mo_k hm, mw_f hm, mo_r1 hm, mw_gates hm, mw_walkers hm, h.gb, cm_leF hq (nat_31 (n := g) (by omega)), mo_has rfl, m_selr h hm hq12, bt_nI (show q < 32 by omega)]
        cases hb : i.testBit q with
        | false =>
          simp only [Option.bind_some, reduceIte, if_true, if_false, Bool.false_eq_true, ck_tt, i32_00]
          refine E1.ok (Prod.ext ?_ (nI_1 q))
          show _ = nI (_ + if i.testBit q = true then _ else 0)
          rw [hb, if_neg (by decide), Nat.add_zero, Int32.add_zero]
        | true =>
          have hc := (hbits q).mp (hsub q hb)
          cases hs : selrV a I w q X with
          | none => exact absurd hs hc.2.2
          | some s =>
            obtain ⟨e1, e2, e3⟩ := pN_some h hq12 hs
            have hs8 : s < 8 := by omega
            simp only [Option.bind_some, reduceIte, if_true, if_false, Bool.false_eq_true, ck_tt, i32_10, show enc (some s) = nI s from rfl, mw_ofp hm hs8 hq12, mw_ofs hm hs8 hq12, mw_stp hm hs8 hq12, mw_sts hm hs8 hq12, (h.oc e3).2.1 q hq12, e1]
            refine E1.ok (Prod.ext ?_ (nI_1 q))
            show _ = nI (_ + if i.testBit q = true then _ else 0)
            rw [hb, if_pos rfl, nI_add]
      · rintro s rfl
        simp only [Option.bind_some, reduceIte, if_true, if_false, Bool.false_eq_true, ck_tt, v_qS, mo_k hm, mw_f hm, mo_r1 hm, mw_gates hm, mw_walkers hm, h.gb, cm_leT (Nat.le_refl g) (nat_31 (n := g) (by omega))]
        exact E1.ok rfl
    have subs : ∀ i, i < 4096 → ((nI i &&& (nI cN ^^^ (-1 : Int32))) = 0 ↔ ∀ k, i.testBit k = true → cN.testBit k = true) := by
      intro i hi
      rw [bt_sub]
      constructor
      · intro z k hk
        by_cases h32 : k < 32
        · rw [← bt_nI h32]; exact z k h32 (by rw [bt_nI h32]; exact hk)
        · rw [Nat.testBit_lt_two_pow (Nat.lt_of_lt_of_le hi (show 4096 ≤ 2 ^ k from Nat.le_trans (Nat.le_of_eq e4096.symm) (Nat.pow_le_pow_right (by omega) (by omega))))] at hk
          cases hk
      · intro z k hk hb
        rw [bt_nI hk] at hb ⊢
        exact z k hb
    have okt : ∀ i, i < 4096 → ((∀ v, v < w → bt X v = true → okV a I g t (T ||| nI i) v) ↔ ((∀ v, v < w → bt X v = true → wayV a I t v) ∧ ∀ k, k < 32 → wantV a I g t X w k → bt T k = true ∨ i.testBit k = true)) := by
      intro i hi
      rw [okV_iff]
      constructor
      · rintro ⟨z1, z2⟩
        refine ⟨z1, fun k hk hw => ?_⟩
        have := z2 k hk hw
        rw [bt_or hk, Bool.or_eq_true_iff, bt_nI hk] at this
        exact this
      · rintro ⟨z1, z2⟩
        refine ⟨z1, fun k hk hw => ?_⟩
        rw [bt_or hk, Bool.or_eq_true_iff, bt_nI hk]
        exact z2 k hk hw
    have r17 : ∀ (J1 : IM) (b pr : Int32), fI (rowI (u2 (u2 J1 1528 17 b) 1528 18 pr) 1529 W, K) 1528 19 17 = some b := fun J1 b pr => by rw [mw_f hm, u2_n _ _ _ _ (by omega), u2_s]
    have r18 : ∀ (J1 : IM) (b pr : Int32), fI (rowI (u2 (u2 J1 1528 17 b) 1528 18 pr) 1529 W, K) 1528 19 18 = some pr := fun J1 b pr => by rw [mw_f hm, u2_s]
    rcases hR with ⟨hno, hr⟩ | ⟨m, hm4, hmc, hiff, hr⟩
    · refine lq1L hL (fun i s => s = (nI i, (rowI (u2 (u2 J 1528 17 (-1)) 1528 18 (-1)) 1529 W, K))) _ (cN + 1) (lim_lt (by omega)) (Nat.zero_le _) rfl ?_ ?_
      · rintro i s hi rfl
        simp only [cm_ltF (show i ≤ cN by omega) (nat_31 (n := cN) (by omega)), if_false, v_qS, mo_k hm, ck_tt]
        by_cases hs : (nI i &&& (nI cN ^^^ (-1 : Int32))) = 0
        · simp only [hs, Option.bind_some, reduceIte, if_true, if_false, Bool.false_eq_true, ck_tt]
          refine E1.bind (m_comes h hm ht X (T ||| nI i)) ?_
          rintro u (⟨rfl, hok⟩ | ⟨rfl, -⟩)
          · exact absurd ((okt i (by omega)).mp hok) (hno i (by omega) ((subs i (by omega)).mp hs))
          · simp only [Option.bind_some, reduceIte, if_true, if_false, Bool.false_eq_true, ck_tt]
            exact E1.ok (Prod.ext (nI_1 i) rfl)
        · simp only [hs, Option.bind_some, reduceIte, if_true, if_false, Bool.false_eq_true, ck_tt]
          exact E1.ok (Prod.ext (nI_1 i) rfl)
      · rintro s rfl
        simp only [Option.bind_some, reduceIte, if_true, if_false, Bool.false_eq_true, ck_tt, cm_ltT (show cN < cN + 1 by omega) (nat_31 (n := cN + 1) (by omega))]
        exact E1.ok ⟨-1, -1, rfl, hr⟩
    · have hmle : m ≤ cN := nat_sub_le hmc
      have hSm := SN_le h (X := X) (its := m) g h12
      refine lq1L hL (fun i s => ∃ b pr, s = (nI i, (rowI (u2 (u2 J 1528 17 b) 1528 18 pr) 1529 W, K)) ∧ ((i ≤ m ∧ b = -1 ∧ pr = -1) ∨ (m < i ∧ b = nI m ∧ pr = nI (SN a I w X m g)))) _ (cN + 1) (lim_lt (by omega)) (Nat.zero_le _) ⟨-1, -1, rfl, Or.inl ⟨Nat.zero_le _, rfl, rfl⟩⟩ ?_ ?_
      · rintro i s hi ⟨b, pr, rfl, hbp⟩
        simp only [cm_ltF (show i ≤ cN by omega) (nat_31 (n := cN) (by omega)), if_false, v_qS, mo_k hm, ck_tt]
        have skip : i ≠ m → E1 (some (Sum.inl (nI i + 1, (rowI (u2 (u2 J 1528 17 b) 1528 18 pr) 1529 W, K))) : Option ((Int32 × Mem) ⊕ Mem)) (Sum.elim (fun s => ∃ b pr, s = (nI (i + 1), (rowI (u2 (u2 J 1528 17 b) 1528 18 pr) 1529 W, K)) ∧ ((i + 1 ≤ m ∧ b = -1 ∧ pr = -1) ∨ (m < i + 1 ∧ b = nI m ∧ pr = nI (SN a I w X m g)))) (fun M' => ∃ b pr, M' = (rowI (u2 (u2 J 1528 17 b) 1528 18 pr) 1529 W, K) ∧ R b pr)) := fun hne => E1.ok ⟨b, pr, Prod.ext (nI_1 i) rfl, by
          rcases hbp with ⟨z, z2⟩ | ⟨z, z2⟩
          · exact Or.inl ⟨by omega, z2⟩
          · exact Or.inr ⟨by omega, z2⟩⟩
        by_cases hs : (nI i &&& (nI cN ^^^ (-1 : Int32))) = 0
        · have hsub := (subs i (by omega)).mp hs
          have hf := hiff i (by omega) hsub
          rw [← okt i (by omega)] at hf
          simp only [hs, Option.bind_some, reduceIte, if_true, if_false, Bool.false_eq_true, ck_tt]
          refine E1.bind (m_comes h hm ht X (T ||| nI i)) ?_
          rintro u (⟨rfl, hok⟩ | ⟨rfl, v0, hv0, hb0, hno⟩)
          · have hms := hf.mp hok
            have hmi := nat_sub_le hms
            simp only [Option.bind_some, reduceIte, if_true, if_false, Bool.false_eq_true, ck_tt, i32_10]
            refine E1.bind (sums i _ (by omega) hsub) ?_
            rintro _ rfl
            rw [r17, Option.bind_some]
            rcases hbp with ⟨z, rfl, rfl⟩ | ⟨z, rfl, rfl⟩
            · have him : i = m := by omega
              rw [if_pos (show (-1 : Int32) < 0 by decide), bdS_l, mw_s hm, Option.bind_some, bp1, mw_s hm, Option.bind_some, bp2]
              exact E1.ok ⟨nI i, _, Prod.ext (nI_1 i) rfl, Or.inr ⟨by omega, by rw [him], by rw [him]⟩⟩
            · have hSi := SN_le h (X := X) (its := i) g h12
              have hSle := SN_mono (a := a) (I := I) (w := w) (X := X) hms g
              rw [if_neg (nI_pos (show m < 2 ^ 31 by omega)), r18, Option.bind_some]
              by_cases hlt : SN a I w X m g < SN a I w X i g
              · rw [if_pos (nI_lt hlt (nat_31 (n := SN a I w X i g) (by omega))), bdS_r]
                exact skip (by omega)
              · have heq : SN a I w X i g = SN a I w X m g := by omega
                have hpc : ¬ (pcI (nI i) < pcI (nI m)) := by
                  rw [pc_nI i (by omega), pc_nI m hm4]
                  exact nI_nlt (pcN_mono hms) (nat_31 (by have := pcN_le i; omega))
                rw [heq, if_neg (nI_nlt (Nat.le_refl (SN a I w X m g)) (nat_31 (n := SN a I w X m g) (by omega))), Option.bind_some, if_pos rfl, jbc, Option.bind_some, Option.bind_some, jbc, Option.bind_some, if_neg hpc, Option.bind_some, if_pos rfl, bdS_r]
                exact skip (by omega)
          · simp only [Option.bind_some, reduceIte, if_true, if_false, Bool.false_eq_true, ck_tt]
            refine skip fun e => ?_
            subst e
            exact hno ((hf.mpr fun _ z => z) v0 hv0 hb0)
        · simp only [hs, Option.bind_some, reduceIte, if_true, if_false, Bool.false_eq_true, ck_tt]
          refine skip fun e => ?_
          subst e
          exact hs ((subs i (by omega)).mpr hmc)
      · rintro s ⟨b, pr, rfl, hbp⟩
        simp only [Option.bind_some, reduceIte, if_true, if_false, Bool.false_eq_true, ck_tt, cm_ltT (show cN < cN + 1 by omega) (nat_31 (n := cN + 1) (by omega))]
        rcases hbp with ⟨z, -⟩ | ⟨z, rfl, rfl⟩
        · omega
        · exact E1.ok ⟨_, _, rfl, hr⟩
end BUY2
