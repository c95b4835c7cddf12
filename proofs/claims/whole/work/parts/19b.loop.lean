/-! the law's loop, its body and start -/
/-- an end that goes on has its counter six further -/
def NX (i : Int32) (o : Option ((Int32 × Mem) ⊕ (Int32 × Mem))) : Prop := ∀ s : Int32 × Mem, o = some (.inl s) → s.1 = i + 6
theorem nx_l {i : Int32} {M : Mem} : NX i (some (.inl (i + 6, M))) := fun s h => by cases h; rfl
theorem nx_r {i : Int32} {b : Int32 × Mem} : NX i (some (.inr b)) := fun s h => by cases h
theorem nx_if {i : Int32} {c : Prop} [Decidable c] {a b : Option ((Int32 × Mem) ⊕ (Int32 × Mem))} (ha : NX i a) (hb : NX i b) : NX i (if c then a else b) := fun s h => by
  by_cases q : c
  · rw [if_pos q] at h; exact ha s h
  · rw [if_neg q] at h; exact hb s h
theorem nx_bd {α : Type} {i : Int32} {o : Option α} {f : α → Option ((Int32 × Mem) ⊕ (Int32 × Mem))} (h : ∀ a, NX i (f a)) : NX i (o.bind f) := fun s q => by
  cases o with
  | none => cases q
  | some a => exact h a s q
set_option maxRecDepth 4000 in
theorem L_body_next {x m o L : Nat} {xs : Nat → Int32} {s1 s2 : Int32 × Mem} (h : F_L_body x m o L xs s1 = some (.inl s2)) : ¬ Int32.ofNat L - 6 < s1.1 ∧ s2.1 = s1.1 + 6 := by
  have key : NX s1.1 (F_L_body x m o L xs s1) := by
    unfold F_L_body
    repeat' (first | exact nx_l | exact nx_r | refine nx_if ?_ ?_ | refine nx_bd fun _ => ?_)
  refine ⟨fun q => ?_, key s2 h⟩
  unfold F_L_body at h
  rw [if_pos q] at h
  cases h
theorem i32_le_len {L k : Nat} (hL : L ≤ 3072) (hk : k ≤ 513) (h : ¬ Int32.ofNat L - 6 < Int32.ofNat (6 * k)) : k ≤ 512 := by
  refine Nat.not_lt.mp fun q => h ?_
  have hk : k = 513 := by omega
  subst hk
  rw [Int32.lt_iff_toInt_lt]
  have h1 : (Int32.ofNat L - 6).toInt = (L : Int) - 6 := by
    rw [Int32.toInt_sub, Int32.toInt_ofNat_of_lt (by omega)]
    show Int.bmod ((L : Int) - 6) (2 ^ 32) = _
    rw [Int.bmod_eq_of_le (by omega) (by omega)]
  rw [h1, Int32.toInt_ofNat_of_lt (by omega)]
  omega
theorem gm_L_loop {X : Cx} {x m o L : Nat} {xs : Nat → Int32} {r : Int32 × Mem} (hscr : SCR X L xs) (hL : L ≤ 3072) : ∀ (n k : Nat) (s : Int32 × Mem) (C D : Nat), loopN n (F_L_body x m o L xs) s = some r → s.1 = Int32.ofNat (6 * k) → k ≤ 513 → C + 4 * (514 - k) ≤ 601024 → D + 1669 * (514 - k) ≤ 7293034 → G X m_L_main (endL X L xs (oIM r)) 23 [.ref 50, .ref x, .ref m, .ref o, .int s.1, .retAddr 0, .retAddr 0] [] C D s.2 := by
  intro n
  induction n with
  | zero => intro k s C D h; cases h
  | succ n ih =>
    intro k s C D h hs hk hC hD
    obtain ⟨e, h1, h2, h3⟩ := bdS_s h
    have e1 : 514 - k = (513 - k) + 1 := by omega
    rw [e1, Nat.mul_add, Nat.mul_one] at hC hD
    have hC1 : C + 4 ≤ 601024 := Nat.le_trans (Nat.add_le_add_left (Nat.le_add_left _ _) _) hC
    have hD1 : D + 1669 ≤ 7293034 := Nat.le_trans (Nat.add_le_add_left (Nat.le_add_left _ _) _) hD
    have hC2 : C + 4 + 4 * (513 - k) ≤ 601024 := by rw [Nat.add_assoc, Nat.add_comm 4]; exact hC
    have hD2 : D + 1669 + 1669 * (513 - k) ≤ 7293034 := by rw [Nat.add_assoc, Nat.add_comm 1669]; exact hD
    have hk3 : 514 - (k + 1) = 513 - k := by omega
    clear hC hD
    refine gm_L_body hscr hC1 hD1 h1 (fun s2 q => ?_) (fun v q => (h3 v q).symm)
    subst q
    obtain ⟨q1, q2⟩ := L_body_next h1
    rw [hs] at q1 q2
    have hk2 := i32_le_len hL hk q1
    refine ih (k + 1) s2 _ _ (h2 s2 rfl) ?_ (by omega) ?_ ?_
    · rw [q2, show 6 * (k + 1) = 6 * k + 6 by omega, Int32.ofNat_add]
      rfl
    · rw [hk3]; exact hC2
    · rw [hk3]; exact hD2
def F_L_main (L : Nat) (xs : Nat → Int32) (M : Mem) : Option (Int32 × Mem) := (nO M 18).bind fun p1 => (ck (qS p1.2 p1.1 ≠ 0)).bind fun h3 => (F_RR_init p1.1 p1.2).bind fun v2 => (ck (p1.1 ≠ 0)).bind fun h4 => (nO v2 19).bind fun p5 => (ck (qS p5.2 p5.1 ≠ 0)).bind fun h7 => (F_Mo_init p5.1 p5.2).bind fun v6 => (ck (p5.1 ≠ 0)).bind fun h8 => (nA v6 3 (1 : Int32)).bind fun p9 => (ck (p9.1 ≠ 0)).bind fun h10 => loopN LIM (F_L_body p1.1 p5.1 p9.1 L xs) ((0 : Int32), p9.2)
theorem gm_L_main {X : Cx} {L : Nat} {xs : Nat → Int32} {M : Mem} {r : Int32 × Mem} (hscr : SCR X L xs) (hL : L ≤ 3072) (hE : F_L_main L xs M = some r) : G X m_L_main (endL X L xs (oIM r)) 0 [.ref 50, .retAddr 0, .retAddr 0, .retAddr 0, .retAddr 0, .retAddr 0, .retAddr 0] [] 0 0 M := by
  unfold F_L_main at hE
  replace hE := bd_s hE
  obtain ⟨p1, hp1, hE⟩ := hE
  refine g_newO dL_law__0 cl_8 (by decide) cn_L_8 in_X12 it_X12 (Nat.le_of_ble_eq_true rfl) (Nat.le_of_ble_eq_true rfl) hp1 ?_
  refine g_dup dL_law__3 rfl ?_
  replace hE := bd_s hE
  obtain ⟨h3, hh3, hE⟩ := hE
  replace hh3 := ck_s hh3
  replace hE := bd_s hE
  obtain ⟨v2, hv2, hE⟩ := hE
  refine g_callI (as := []) 528 33145 rfl dL_law__4 yg_RR_init il_L_92 (ct_RR_init hv2) hh3 rfl rfl rfl (Nat.le_of_ble_eq_true rfl) rfl rfl ?_
  replace hE := bd_s hE
  obtain ⟨h4, hh4, hE⟩ := hE
  replace hh4 := ck_s hh4
  refine g_astore_n dL_law__7 rfl hh4 ?_
  replace hE := bd_s hE
  obtain ⟨p5, hp5, hE⟩ := hE
  refine g_newO dL_law__8 cl_9 (by decide) cn_L_93 in_X13 it_X13 (Nat.le_of_ble_eq_true rfl) (Nat.le_of_ble_eq_true rfl) hp5 ?_
  refine g_dup dL_law__11 rfl ?_
  replace hE := bd_s hE
  obtain ⟨h7, hh7, hE⟩ := hE
  replace hh7 := ck_s hh7
  replace hE := bd_s hE
  obtain ⟨v6, hv6, hE⟩ := hE
  refine g_callI (as := []) 537 41894 rfl dL_law__12 yg_Mo_init il_L_95 (ct_Mo_init hv6) hh7 rfl rfl rfl (Nat.le_of_ble_eq_true rfl) rfl rfl ?_
  replace hE := bd_s hE
  obtain ⟨h8, hh8, hE⟩ := hE
  replace hh8 := ck_s hh8
  refine g_astore_n dL_law__15 rfl hh8 ?_
  refine g_iconst (v := (1 : Int32)) dL_law__16 (by decide) ?_
  replace hE := bd_s hE
  obtain ⟨p9, hp9, hE⟩ := hE
  refine g_newa (t := 3) (B := 1) dL_law__17 rfl rfl ac_3 hp9 (by decide) (Nat.le_of_ble_eq_true rfl) (Nat.le_of_ble_eq_true rfl) ?_
  replace hE := bd_s hE
  obtain ⟨h10, hh10, hE⟩ := hE
  replace hh10 := ck_s hh10
  refine g_astore_n dL_law__19 rfl hh10 ?_
  refine g_iconst (v := (0 : Int32)) dL_law__20 (by decide) ?_
  refine g_istore dL_law__21 rfl ?_
  exact gm_L_loop hscr hL LIM 0 _ 538 41895 hE rfl (by omega) (Nat.le_of_ble_eq_true rfl) (Nat.le_of_ble_eq_true rfl)
