/-! calls at the tape -/
section TAPE2
variable {a b c d s g w k v q p n L o hh n' L' t r : Nat} {I I' I2 : IM} {W W' : Nat → Int32} {N N' N2 K : NM} {J J' J2 : IM} {M M' : Mem} {P : List lnT} {tr : Nat → Int32} {x y z : Int32}
theorem Ex.ct (h : INVp N I K (rowI J 1529 W) g w p P n L o hh)
    (fi : ∀ c, ¬ (c = 1001 ∨ c = 1002 ∨ (1475 ≤ c ∧ c < 1485)) → I' c = I c)
    (fj : ∀ c j, c ≠ 1529 → c ≠ 1533 → c ≠ 1534 → ¬ (c = 1528 ∧ (j = 0 ∨ (8 ≤ j ∧ j ≤ 12))) → J' c j = J c j)
    (fW : ∀ j, ¬ (285 ≤ j ∧ j < 364) → W' j = W j) (hc : CRl 1475 I' W' g n') (ht : TPr I' J' L') (h0 : J' 1528 0 = 0) (x : Int32) : Ex tr N I K (rowI J 1529 W) (.inl (x, (I', N))) (x, (rowI J' 1529 W', K)) := by
  obtain ⟨h1, f1, f2⟩ := h.ct fi fj fW hc ht
  exact ⟨_, N, _, rfl, ⟨_, _, _, _, _, _, _, _, h1⟩, f1, f2, Or.inl ⟨x, rfl, rfl, by rw [rw_n _ _ (by omega)]; exact h0⟩⟩
theorem op_end (h : INVp N I K (rowI J 1529 W) g w p P n L o hh) (x : Int32) : E2 (F_RR_end 1000 x (I, N)) (F_Mo_end 1528 x (rowI J 1529 W, K)) (fun u u' => Ex tr N I K (rowI J 1529 W) (.inl u) u') := by
  have hN := h.1
  have hm := h.2.1
  have k0 : kS N 1001 = 15 := hN.2.1.1
  have ht := h.2.2.2.2.2.2.1.row
  obtain ⟨e1, e2, e3, e4⟩ := ht
  have e80 : u2 J 1528 0 0 1528 8 = nI L := by rw [u2_n _ _ _ _ (by omega)]; exact e2
  unfold F_RR_end F_Mo_end
  rcases ix2 x (a := 0) (b := L) (by omega) (by omega) with hx | ⟨m, -, hm', rfl⟩
  · have hx' : ((0 : Int32) ≤ x ∧ x ≤ nI L) = False := hx
    simp only [sp_k hN, Option.bind_some, reduceIte, if_true, if_false, Bool.false_eq_true, ck_tt, mw_s hm, v_qS, mo_k hm, mw_f hm, mo_r1 hm, mw_gates hm, mw_walkers hm, bdX_l, bdX_r, m_thr0, m_thr1 hm, i32_10, i32_00, sp_r0 hN, sp_r1 hN, sp_r2 hN, sp_r3 hN, sp_r4 hN, sp_r5 hN, sp_r6 hN, sp_r7 hN, sp_r8 hN, sp_r9 hN, v_fI k0, e1, e80]
    by_cases z : x < 0
    · simp only [z, Option.bind_some, reduceIte, if_true, if_false, Bool.false_eq_true, ck_tt]
      exact E2.ok (Ex.val h _)
    · have : (x ≤ nI L) = False := eq_false fun q => (Eq.mp hx' ⟨Int32.not_lt.mp z, q⟩)
      simp only [z, this, Option.bind_some, reduceIte, if_true, if_false, Bool.false_eq_true, ck_tt]
      exact E2.ok (Ex.val h _)
  · simp only [sp_k hN, Option.bind_some, reduceIte, if_true, if_false, Bool.false_eq_true, ck_tt, mw_s hm, v_qS, mo_k hm, mw_f hm, mo_r1 hm, mw_gates hm, mw_walkers hm, bdX_l, bdX_r, m_thr0, m_thr1 hm, i32_10, i32_00, sp_r0 hN, sp_r1 hN, sp_r2 hN, sp_r3 hN, sp_r4 hN, sp_r5 hN, sp_r6 hN, sp_r7 hN, sp_r8 hN, sp_r9 hN, v_fI k0, v_sI k0, e1, e80, nI_lt0 (show m < 2 ^ 31 by omega), cm_leT hm' (show L < 2 ^ 31 by omega)]
    refine E2.ok (Ex.ct h (n' := n) (L' := m) (fun c hc => u2_o _ _ _ _ (by omega)) (fun c j z1 z2 z3 z4 => by rw [u2_n _ _ _ _ (by omega), u2_n _ _ _ _ (by omega)]) (fun _ _ => rfl) (h.cr.cong (fun c c1 c2 => u2_o _ _ _ _ (by omega)) (fun _ _ => rfl)) ⟨u2_s _ _ _ _, u2_s _ _ _ _, by omega, fun k hk => ?_⟩ (by rw [u2_n _ _ _ _ (by omega), u2_s]) _)
    obtain ⟨y, h1, h2, h3⟩ := e4 k (by omega)
    exact ⟨y, h1, (u2_n _ _ _ _ (by omega)).trans h2, (u2_n _ _ _ _ (by omega)).trans ((u2_n _ _ _ _ (by omega)).trans h3)⟩
theorem op_feed (h : INVp N I K (rowI J 1529 W) g w p P n L o hh) (a b c d e : Int32) : E2 (F_RR_feed 1000 a b c d e (I, N)) (F_Mo_feed 1528 a b c d e (rowI J 1529 W, K)) (fun u u' => Ex tr N I K (rowI J 1529 W) (.inl u) u') := by
  have hN := h.1
  have hm := h.2.1
  have k0 : kS N 1001 = 15 := hN.2.1.1
  have ht := h.2.2.2.2.2.2.1
  obtain ⟨e1, e2, e3, e4⟩ := ht
  by_cases hL : L + 20 ≤ 400
  · refine E2.mk (P := fun u => ∃ I', u = (nI (L + 20), (I', N)) ∧ I' 1001 1 = nI (L + 20) ∧ (∀ c j, ¬ (c = 1001 ∧ j = 1) → ¬ (c = 1002 ∧ L ≤ j) → I' c j = I c j) ∧ ∀ i, i < 20 → I' 1002 (L + i) = cbV (fvV a b c d e (i / 4)) (i % 4)) ?_ ?_
    · unfold F_RR_feed F_Tape_hasRoom
      simp only [sp_k hN, Option.bind_some, reduceIte, if_true, if_false, Bool.false_eq_true, ck_tt, mw_s hm, v_qS, mo_k hm, mw_f hm, mo_r1 hm, mw_gates hm, mw_walkers hm, bdX_l, bdX_r, m_thr0, m_thr1 hm, i32_10, i32_00, sp_r0 hN, sp_r1 hN, sp_r2 hN, sp_r3 hN, sp_r4 hN, sp_r5 hN, sp_r6 hN, sp_r7 hN, sp_r8 hN, sp_r9 hN, k0, v_fI k0, e1, show ((380 : Int32) < nI L) = False from cm_ltF (a := 380) (b := L) (by omega) (by omega)]
      refine E1.bind (c_add hN a (L := L) (by omega) e1) ?_
      rintro _ ⟨I1, rfl, a1, b1, c1⟩
      simp only [sp_k hN, Option.bind_some, reduceIte, if_true, if_false, Bool.false_eq_true, ck_tt, mw_s hm, v_qS, mo_k hm, mw_f hm, mo_r1 hm, mw_gates hm, mw_walkers hm, bdX_l, bdX_r, m_thr0, m_thr1 hm, i32_10, i32_00, sp_r0 hN, sp_r1 hN, sp_r2 hN, sp_r3 hN, sp_r4 hN, sp_r5 hN, sp_r6 hN, sp_r7 hN, sp_r8 hN, sp_r9 hN, k0]
      refine E1.bind (c_add hN b (L := L + 4) (by omega) a1) ?_
      rintro _ ⟨I2, rfl, a2, b2, c2⟩
      simp only [sp_k hN, Option.bind_some, reduceIte, if_true, if_false, Bool.false_eq_true, ck_tt, mw_s hm, v_qS, mo_k hm, mw_f hm, mo_r1 hm, mw_gates hm, mw_walkers hm, bdX_l, bdX_r, m_thr0, m_thr1 hm, i32_10, i32_00, sp_r0 hN, sp_r1 hN, sp_r2 hN, sp_r3 hN, sp_r4 hN, sp_r5 hN, sp_r6 hN, sp_r7 hN, sp_r8 hN, sp_r9 hN, k0]
      refine E1.bind (c_add hN c (L := L + 4 + 4) (by omega) a2) ?_
      rintro _ ⟨I3, rfl, a3, b3, c3⟩
      simp only [sp_k hN, Option.bind_some, reduceIte, if_true, if_false, Bool.false_eq_true, ck_tt, mw_s hm, v_qS, mo_k hm, mw_f hm, mo_r1 hm, mw_gates hm, mw_walkers hm, bdX_l, bdX_r, m_thr0, m_thr1 hm, i32_10, i32_00, sp_r0 hN, sp_r1 hN, sp_r2 hN, sp_r3 hN, sp_r4 hN, sp_r5 hN, sp_r6 hN, sp_r7 hN, sp_r8 hN, sp_r9 hN, k0]
      refine E1.bind (c_add hN d (L := L + 4 + 4 + 4) (by omega) a3) ?_
      rintro _ ⟨I4, rfl, a4, b4, c4⟩
      simp only [sp_k hN, Option.bind_some, reduceIte, if_true, if_false, Bool.false_eq_true, ck_tt, mw_s hm, v_qS, mo_k hm, mw_f hm, mo_r1 hm, mw_gates hm, mw_walkers hm, bdX_l, bdX_r, m_thr0, m_thr1 hm, i32_10, i32_00, sp_r0 hN, sp_r1 hN, sp_r2 hN, sp_r3 hN, sp_r4 hN, sp_r5 hN, sp_r6 hN, sp_r7 hN, sp_r8 hN, sp_r9 hN, k0]
      refine E1.bind (c_add hN e (L := L + 4 + 4 + 4 + 4) (by omega) a4) ?_
      rintro _ ⟨I5, rfl, a5, b5, c5⟩
      simp only [sp_k hN, Option.bind_some, reduceIte, if_true, if_false, Bool.false_eq_true, ck_tt, mw_s hm, v_qS, mo_k hm, mw_f hm, mo_r1 hm, mw_gates hm, mw_walkers hm, bdX_l, bdX_r, m_thr0, m_thr1 hm, i32_10, i32_00, sp_r0 hN, sp_r1 hN, sp_r2 hN, sp_r3 hN, sp_r4 hN, sp_r5 hN, sp_r6 hN, sp_r7 hN, sp_r8 hN, sp_r9 hN, v_fI k0, a5]
      refine E1.ok ⟨I5, rfl, a5, fun c j z1 z2 => by rw [b5 c j z1 (by omega), b4 c j z1 (by omega), b3 c j z1 (by omega), b2 c j z1 (by omega), b1 c j z1 z2], fun i hi => ?_⟩
      have : (i / 4 = 0 ∧ i = 0 + i % 4) ∨ (i / 4 = 1 ∧ i = 4 + i % 4) ∨ (i / 4 = 2 ∧ i = 8 + i % 4) ∨ (i / 4 = 3 ∧ i = 12 + i % 4) ∨ (i / 4 = 4 ∧ i = 16 + i % 4) := by omega
      have h4 : i % 4 < 4 := Nat.mod_lt _ (by omega)
      rcases this with ⟨q1, q2⟩ | ⟨q1, q2⟩ | ⟨q1, q2⟩ | ⟨q1, q2⟩ | ⟨q1, q2⟩
      · rw [q1, b5 _ _ (by omega) (by omega), b4 _ _ (by omega) (by omega), b3 _ _ (by omega) (by omega), b2 _ _ (by omega) (by omega)]
        exact (by rw [show L + i = L + i % 4 by omega]; exact c1 _ h4)
      · rw [q1, b5 _ _ (by omega) (by omega), b4 _ _ (by omega) (by omega), b3 _ _ (by omega) (by omega)]
        exact (by rw [show L + i = L + 4 + i % 4 by omega]; exact c2 _ h4)
      · rw [q1, b5 _ _ (by omega) (by omega), b4 _ _ (by omega) (by omega)]
        exact (by rw [show L + i = L + 4 + 4 + i % 4 by omega]; exact c3 _ h4)
      · rw [q1, b5 _ _ (by omega) (by omega)]
        exact (by rw [show L + i = L + 4 + 4 + 4 + i % 4 by omega]; exact c4 _ h4)
      · rw [q1]
        exact (by rw [show L + i = L + 4 + 4 + 4 + 4 + i % 4 by omega]; exact c5 _ h4)
    · rintro _ ⟨I', rfl, f1, f2, f3⟩
      refine (m_feed hm a b c d e hL e2).imp ?_
      rintro _ ⟨J', rfl, g0, g1, g2, g3⟩
      have eW : J' 1529 = W := funext fun j => by rw [g2 1529 j (by omega) (by omega) (by omega), rw_s]
      obtain ⟨J1, rfl⟩ : ∃ J1, J' = rowI J1 1529 W := ⟨J', by rw [← eW, rw_self]⟩
      rw [rw_n _ _ (by omega)] at g0 g1
      have g2' : ∀ c j, c ≠ 1529 → c ≠ 1534 → ¬ (c = 1528 ∧ (j = 0 ∨ j = 8)) → ¬ (c = 1533 ∧ L ≤ j) → J1 c j = J c j := fun c j z0 z1 z2 z3 => by
        have := g2 c j z1 z2 z3
        rwa [rw_n _ _ z0, rw_n _ _ z0] at this
      refine Ex.ct h (n' := n) (L' := L + 20) (fun c hc => funext fun j => f2 c j (by omega) (by omega)) (fun c j z1 z2 z3 z4 => g2' c j z1 z3 (by omega) (by omega)) (fun _ _ => rfl) (h.cr.cong (fun c c1 c2 => funext fun j => f2 c j (by omega) (by omega)) (fun _ _ => rfl)) ⟨f1, g1, hL, fun k hk => ?_⟩ g0 _
      by_cases hk' : k < L
      · obtain ⟨y, h1, h2, h3⟩ := e4 k hk'
        exact ⟨y, h1, by rw [f2 _ _ (by omega) (by omega)]; exact h2, by rw [g2' _ _ (by omega) (by omega) (by omega) (by omega)]; rwa [rw_n _ _ (by omega)] at h3⟩
      · have e5 := f3 (k - L) (by omega)
        have e6 := g3 (k - L) (by omega)
        rw [rw_n _ _ (by omega)] at e6
        rw [show L + (k - L) = k by omega] at e5 e6
        obtain ⟨y, h1, h2, h3⟩ := by_eq (fvV a b c d e ((k - L) / 4)) (j := (k - L) % 4) (Nat.mod_lt _ (by omega))
        exact ⟨y, h1, e5.trans h2, e6.trans h3⟩
  · have e8 : J 1528 8 = nI L := by rwa [rw_n _ _ (by omega)] at e2
    have e80 : u2 J 1528 0 0 1528 8 = nI L := by rw [u2_n _ _ _ _ (by omega)]; exact e8
    unfold F_RR_feed F_Tape_hasRoom F_Mo_feed
    simp only [sp_k hN, Option.bind_some, reduceIte, if_true, if_false, Bool.false_eq_true, ck_tt, mw_s hm, v_qS, mo_k hm, mw_f hm, mo_r1 hm, mw_gates hm, mw_walkers hm, bdX_l, bdX_r, m_thr0, m_thr1 hm, i32_10, i32_00, sp_r0 hN, sp_r1 hN, sp_r2 hN, sp_r3 hN, sp_r4 hN, sp_r5 hN, sp_r6 hN, sp_r7 hN, sp_r8 hN, sp_r9 hN, k0, v_fI k0, e1, show ((380 : Int32) < nI L) = True from cm_ltT (a := 380) (b := L) (by omega) (by omega), e80, show nI L + (20 : Int32) = nI (L + 20) from nI_add L 20, show (nI (L + 20) ≤ (400 : Int32)) = False from cm_leF (a := 400) (by omega) (by omega)]
    exact E2.ok (Ex.val h _)
theorem by_let : ∀ x, x < 256 → (((97 : Int32) ≤ (nI x).toInt8.toInt32 ∧ (nI x).toInt8.toInt32 ≤ 122) ↔ (97 ≤ x ∧ x ≤ 122)) ∧ (((97 : Int32) ≤ nI x ∧ nI x ≤ 122) ↔ (97 ≤ x ∧ x ≤ 122)) ∧ (x < 128 → (nI x).toInt8.toInt32 = nI x) ∧ (((nI x).toInt8.toInt32 = 84 ∨ (nI x).toInt8.toInt32 = 70 ∨ (nI x).toInt8.toInt32 = 63) ↔ (x = 84 ∨ x = 70 ∨ x = 63)) ∧ ((nI x = 84 ∨ nI x = 70 ∨ nI x = 63) ↔ (x = 84 ∨ x = 70 ∨ x = 63)) := by decide +kernel
theorem c_isLet {x : Nat} (hx : x < 256) (M : Mem) : F_Text_isLetter (nI x) M = some (if 97 ≤ x ∧ x ≤ 122 then 1 else 0) := by
  have h := (by_let x hx).2.1
  unfold F_Text_isLetter
  by_cases c1 : nI x < 97
  · rw [if_pos c1, if_neg (fun z => absurd (h.mpr z).1 (Int32.not_le.mpr c1))]; rfl
  · rw [if_neg c1]
    by_cases c2 : 122 < nI x
    · rw [if_pos c2, if_neg (fun z => absurd (h.mpr z).2 (Int32.not_le.mpr c2))]; rfl
    · rw [if_neg c2, if_pos (h.mp ⟨Int32.not_lt.mp c1, Int32.not_lt.mp c2⟩)]; rfl
/-- all of the first n -/
def alB (f : Nat → Bool) : Nat → Bool
  | 0 => true
  | n + 1 => alB f n && f n
theorem alB_iff {f : Nat → Bool} : ∀ {n : Nat}, alB f n = true ↔ ∀ i, i < n → f i = true
  | 0 => ⟨fun _ i hi => absurd hi (Nat.not_lt_zero _), fun _ => rfl⟩
  | n + 1 => by
    show (alB f n && f n) = true ↔ _
    rw [Bool.and_eq_true, alB_iff]
    exact ⟨fun h i hi => by
      by_cases e : i = n
      · subst e; exact h.2
      · exact h.1 i (by omega), fun h => ⟨fun i hi => h i (by omega), h n (by omega)⟩⟩
/-- until the first that isn't -/
theorem al_loop {B : Type} {f : Int32 → Option (Int32 ⊕ B)} {F : Nat → Bool} {n : Nat} {r0 r1 : B} (hn : n < 2 ^ 16) (h1 : ∀ i, i < n → F i = true → f (nI i) = some (.inl (nI i + 1))) (h2 : ∀ i, i < n → F i = false → f (nI i) = some (.inr r0)) (h3 : f (nI n) = some (.inr r1)) : loopN LIM f (0 : Int32) = some (if alB F n = true then r1 else r0) := by
  refine E1.eq (lq1 (fun i s => s = nI i ∧ alB F i = true) _ n (lim_lt (by omega)) (Nat.zero_le _) ⟨rfl, rfl⟩ ?_ ?_)
  · rintro i s hi ⟨rfl, ha⟩
    cases hF : F i with
    | true =>
      rw [h1 i hi hF]
      refine E1.ok ⟨nI_1 i, ?_⟩
      show (alB F i && F i) = true
      rw [ha, hF]; rfl
    | false =>
      rw [h2 i hi hF]
      refine E1.ok ?_
      show r0 = _
      rw [if_neg]
      rw [alB_iff]
      exact fun z => by have := z i hi; rw [hF] at this; cases this
  · rintro s ⟨rfl, ha⟩
    rw [h3]
    refine E1.ok ?_
    show r1 = _
    rw [if_pos ha]
/-- all, tried to the end -/
theorem an_loop {B : Type} {f : Int32 × Int32 → Option ((Int32 × Int32) ⊕ B)} {F : Nat → Bool} {n : Nat} {r : Int32 → B} (b0 : Bool) (hn : n < 2 ^ 16) (h1 : ∀ i (b : Bool), i < n → f (if b = true then 1 else 0, nI i) = some (.inl (if (b && F i) = true then 1 else 0, nI i + 1))) (h3 : ∀ x, f (x, nI n) = some (.inr (r x))) : loopN LIM f (if b0 = true then 1 else 0, 0) = some (r (if (b0 && alB F n) = true then 1 else 0)) := by
  refine E1.eq (lq1 (fun i s => s = (if (b0 && alB F i) = true then 1 else 0, nI i)) _ n (lim_lt (by omega)) (Nat.zero_le _) (by rw [show alB F 0 = true from rfl, Bool.and_true]; rfl) ?_ ?_)
  · rintro i s hi rfl
    rw [h1 i _ hi]
    refine E1.ok (Prod.ext ?_ (nI_1 i))
    rw [Bool.and_assoc]; rfl
  · rintro s rfl
    rw [h3]
    exact E1.ok rfl
end TAPE2
