/-! what holds at the start -/
def weB (I : IM) : Bool := alB (fun k => decide (I (1007 + 4) k = 0 ∧ I (1007 + 7) k = 0 ∧ I (1007 + 8) k = 0 ∧ bt (I 1007 12) k = false) && alB (fun q => decide (I (1007 + 19 + k) q = -1)) 12) 8
theorem ini_ints : (iniI 1007 0 = nI 0 ∧ iniI 1529 0 = nI 0 ∧ iniI 1007 4 = nI 0 ∧ iniI 1529 1 = nI 0 ∧ iniI 1529 2 = iniI 1007 13 ∧ iniI 1529 4 = iniI 1007 16 ∧ iniI 1529 5 = iniI 1007 14 ∧ iniI 1529 6 = iniI 1007 15 ∧ iniI 1529 7 = iniI 1007 17 ∧ iniI 1529 8 = iniI 1007 18) ∧ weB iniI = true ∧
  (iniI 1529 3 = 0 ∧ iniI 1034 0 = -1 ∧ iniI 1475 3 = nI 0 ∧ iniI 1529 285 = nI 0 ∧ iniI 1001 1 = nI 0 ∧ iniI 1528 8 = nI 0 ∧ iniI 1000 11 = iniI 1528 13 ∧ iniI 1077 1 = nI 0 ∧ iniI 1077 2 = nI 0 ∧ iniI 1528 6 = nI 0 ∧ iniI 1000 10 = 0 ∧ iniI 1528 4 = 0 ∧ iniI 1529 2 = nI 0) := by decide +kernel
theorem ini_law : kR iniN 1007 19 = 1034 ∧ kS iniN 1034 = 12 ∧ kR iniN 1034 3 = 1034 + 3 ∧ kR iniN 1034 1 = 1034 + 4 ∧ kR iniN 1034 2 = 1034 + 5 ∧ kS iniN 1037 = 1 ∧ kN iniN 1037 = 64 ∧ kS iniN 1038 = 4 ∧ kN iniN 1038 = 0 ∧ kS iniN 1039 = 1 ∧ kN iniN 1039 = 0 := by decide +kernel
theorem ini_wr : WR 1007 iniI (iniI 1529) 0 0 := by
  obtain ⟨⟨a1, a2, a3, a4, a5, a6, a7, a8, a9, a10⟩, hw, -, -, -, -, -, -, -, -, -, -, -, -, a11⟩ := ini_ints
  refine ⟨⟨by omega, by omega⟩, ⟨⟨a1, a2⟩, ⟨a3, a4⟩, ⟨a5, 0, by omega, a11⟩, a6, a7, a8, a9, a10⟩, fun k hk => absurd hk (Nat.not_lt_zero _), fun k hk => absurd hk (Nat.not_lt_zero _), fun k _ hk => ?_⟩
  obtain ⟨h1, h2⟩ := Bool.and_eq_true_iff.mp (alB_iff.mp hw k hk)
  obtain ⟨b1, b2, b3, b4⟩ := of_decide_eq_true h1
  exact ⟨b1, b2, b3, b4, fun q hq => of_decide_eq_true (alB_iff.mp h2 q hq)⟩
theorem ini_z : kZ iniN = 1538 := by decide +kernel
theorem zp_gen (M : Mem) (h : ZP M) : ∀ b, kZ M.2 ≤ b → kS M.2 b = 0 := h
theorem ini_zp : ∀ b, kZ iniN ≤ b → kS iniN b = 0 := zp_gen iniM zp_ini
theorem pe_gen (M : Mem) : M = (M.1, M.2) := rfl
theorem ini_e : iniM = (iniI, iniN) := pe_gen iniM
theorem ini_shpe : Shp iniN := by
  obtain ⟨⟨s1, s2, s3⟩, ⟨w1, w2, w3, w4⟩, s4, s5, s6⟩ := ini_shp
  obtain ⟨m1, m2, m3, m4, m5, m6, m7, m8, m9, m10, m11⟩ := ini_mn
  refine ⟨s1, s2, s3, ⟨wnB_e w1, wnB_e w2, wnB_e w3, fun i hi => wnB_e (w4 i hi)⟩, s4, s5, s6, ini_cns, ⟨m1, m2, m3, m4, m5, m6, m7, m8, m9⟩, ⟨m10, m11⟩, Nat.le_of_eq ini_z.symm, ini_zp⟩
theorem ini_inv : INV2 iniN iniI iniN iniI := by
  obtain ⟨-, -, b1, b2, b3, b4, b5, b6, b7, b8, b9, b10, b11, b12, -⟩ := ini_ints
  obtain ⟨l0, l1, l2, l3, l4, l5, l6, l7, l8, l9, l10⟩ := ini_law
  refine ⟨0, 0, 1034, [], 0, 0, 0, 0, ini_shpe, ini_shpe.mn, ini_wr, l0, ⟨⟨⟨⟨l1, by rw [l2, l4]; omega⟩, ?_, ?_, ?_, by decide, fun j x hx => by cases hx⟩, by decide, fun ln hl => absurd hl (by simp), trivial, Or.inr ⟨b1, rfl, b2⟩⟩, Or.inr ⟨Or.inl rfl, l2, l3, l4⟩⟩, ⟨by omega, b3, b4, fun i hi => absurd hi (Nat.not_lt_zero _)⟩, ⟨b5, b6, by omega, fun k hk => absurd hk (Nat.not_lt_zero _)⟩, b7, ⟨⟨by omega, by omega⟩, ⟨b8, b9, b10⟩, fun i hi => absurd hi (Nat.not_lt_zero _)⟩, Or.inl ⟨b11, b12⟩⟩
  · rw [l3]; exact ⟨l7, l8⟩
  · rw [l4]; exact ⟨l9, l10⟩
  · rw [l2]; exact ⟨l5, l6⟩
theorem qS_new (M : Mem) (t n : Nat) : qS (pNew M t n) (qZ M) = t := by
  show (if qZ M = qZ M then (t, n) else M.2.2.2.1 (qZ M)).1 = t
  rw [if_pos rfl]
theorem main_gen {m : Mem} (hz : qZ m = 1000) {L : Nat} {xs : Nat → Int32} {v2 v6 : Mem} {r : Int32 × Mem} (h2 : F_RR_init 1000 (pNew m 18 0) = some v2) (z2 : qZ v2 = 1528) (h6 : F_Mo_init 1528 (pNew v2 19 0) = some v6) (z6 : qZ v6 = 1537) (e : loopN LIM (F_L_body 1000 1528 1537 L xs) ((0 : Int32), pNew v6 3 1) = some r) : F_L_main L xs m = some r := by
  have k1 : qS (pNew m 18 0) 1000 ≠ 0 := by
    have := qS_new m 18 0
    rw [hz] at this
    rw [this]; decide
  have k2 : qS (pNew v2 19 0) 1528 ≠ 0 := by
    have := qS_new v2 19 0
    rw [z2] at this
    rw [this]; decide
  have e0 : nO m 18 = some (1000, pNew m 18 0) := by unfold nO; rw [hz]
  have e5 : nO v2 19 = some (1528, pNew v2 19 0) := by unfold nO; rw [z2]
  have e9 : nA v6 3 (1 : Int32) = some (1537, pNew v6 3 1) := by
    unfold nA
    rw [if_pos (by decide), z6]; rfl
  unfold F_L_main
  rw [e0, Option.bind_some]
  dsimp only
  rw [ck_tt k1, h2, Option.bind_some, ck_tt (show (1000 : Nat) ≠ 0 by decide), e5, Option.bind_some]
  dsimp only
  rw [ck_tt k2, h6, Option.bind_some, ck_tt (show (1528 : Nat) ≠ 0 by decide), e9, Option.bind_some]
  dsimp only
  rw [ck_tt (show (1537 : Nat) ≠ 0 by decide)]
  exact e
theorem ini1_gen (m : Mem) (hz : qZ m = 1000) : ((nO m 18).bind fun p1 => F_RR_init p1.1 p1.2) = F_RR_init 1000 (pNew m 18 0) := by
  unfold nO
  rw [hz, Option.bind_some]
theorem ini1_e : ini1 = F_RR_init 1000 (pNew m0 18 0) := ini1_gen m0 rfl
theorem ini_parts : ∃ v2 v6, F_RR_init 1000 (pNew m0 18 0) = some v2 ∧ qZ v2 = 1528 ∧ F_Mo_init 1528 (pNew v2 19 0) = some v6 ∧ qZ v6 = 1537 ∧ iniM = pNew v6 3 1 := by
  obtain ⟨s1, s2, s3⟩ := ini_some
  rw [ini1_e] at s2
  have ei : ini = (F_RR_init 1000 (pNew m0 18 0)).bind fun v2 => (nO v2 19).bind fun p5 => (F_Mo_init p5.1 p5.2).bind fun v6 => (nA v6 3 (1 : Int32)).bind fun p9 => some p9.2 := by
    unfold ini
    rw [ini1_e]
  have em : iniM = ini.getD m0 := rfl
  rw [em] at s3 ⊢
  rw [ei] at s1 s3 ⊢
  generalize F_RR_init 1000 (pNew m0 18 0) = R at s1 s2 s3 ⊢
  cases R with
  | none => cases s1
  | some v2 =>
    have s2 : qZ v2 = 1528 := s2
    have e5 : nO v2 19 = some (1528, pNew v2 19 0) := by unfold nO; rw [s2]
    rw [Option.bind_some, e5, Option.bind_some] at s1 s3 ⊢
    dsimp only at s1 s3 ⊢
    cases h6 : F_Mo_init 1528 (pNew v2 19 0) with
    | none => rw [h6] at s1; cases s1
    | some v6 =>
      have e9 : nA v6 3 (1 : Int32) = some (qZ v6, pNew v6 3 1) := by
        unfold nA
        rw [if_pos (by decide)]; rfl
      rw [h6, Option.bind_some, e9] at s3
      refine ⟨v2, v6, rfl, s2, h6, ?_, ?_⟩
      · have s3 : qZ v6 + 1 = 1538 := s3
        omega
      · rw [Option.bind_some, e9]; rfl
/-- the law's function answers 1, for every script -/
theorem main_ok (hroad : ∀ N I K J, INV2 N I K J → E2 (F_RR_road 1000 (I, N)) (F_Mo_road 1528 (J, K)) (Ex trR N I K J)) (hlaw : ∀ N I K J, INV2 N I K J → E2 (F_RR_law 1000 (I, N)) (F_Mo_law 1528 (J, K)) (Ex trL N I K J)) {L : Nat} {xs : Nat → Int32} (hL : L ≤ 3072) : ∃ M, F_L_main L xs m0 = some (1, M) := by
  obtain ⟨v2, v6, h2, z2, h6, z6, em⟩ := ini_parts
  obtain ⟨⟨r, M⟩, e, h1⟩ := loop_ok hroad hlaw hL (xs := xs) (M := iniM) ⟨iniI, iniN, ini_e, ini_inv⟩
  have h1 : r = 1 := h1
  subst h1
  rw [em] at e
  exact ⟨M, main_gen rfl h2 z2 h6 z6 e⟩
