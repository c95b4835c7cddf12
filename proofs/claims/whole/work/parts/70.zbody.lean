/-! the law's body: a call after another -/
def St (M : Mem) : Prop := ∃ I N, M = (I, N) ∧ INV2 N I N I
def sL (N : NM) (z : Int64) : NM := (N.1, u2 N.2.1 1537 0 z, N.2.2)
section BODY
variable {a b c d s g w k v q p n L o hh : Nat} {I I' I2 : IM} {W W' : Nat → Int32} {N N' N2 K K' : NM} {J J' J2 : IM} {M M' : Mem} {P : List lnT} {tr : Nat → Int32} {x y z : Int32}
theorem INVp.toJ (h : INVp N I K J g w p P n L o hh) (hm : MN K') (f : ∀ c, 1528 ≤ c → c ≤ 1536 → J' c = J c) : INVp N I K' J' g w p P n L o hh := by
  obtain ⟨h1, h2, h3, h4, h5, h6, h7, h8, h9, h10⟩ := h
  refine ⟨h1, hm, ?_, h4, ?_, ?_, h7.cong rfl rfl (congrFun (f _ (by omega) (by omega)) _) (f _ (by omega) (by omega)), ?_, ?_, ?_⟩
  · rw [f _ (by omega) (by omega)]; exact h3
  · rw [f _ (by omega) (by omega)]; exact h5
  · rw [f _ (by omega) (by omega)]; exact h6
  · rw [f _ (by omega) (by omega)]; exact h8
  · exact h9.cong rfl (congrFun (f _ (by omega) (by omega)) _) (f _ (by omega) (by omega)) (congrFun (f _ (by omega) (by omega)) _) (fun _ _ _ _ => rfl) (fun _ _ => rfl)
  · unfold IMr at h10 ⊢
    rw [f 1528 (by omega) (by omega), f 1530 (by omega) (by omega)]
    exact h10
theorem INVp.toI (h : INVp N I K J g w p P n L o hh) (f : ∀ c, ¬ (1528 ≤ c ∧ c ≤ 1536) → I' c = I c) : INVp N I' K J g w p P n L o hh := by
  obtain ⟨h1, h2, h3, h4, h5, h6, h7, h8, h9, h10⟩ := h
  have lz : ∀ c, LZx c → I' c = I c := fun c hc => f c (by have := hc.ne; omega)
  refine ⟨h1, h2, h3.rows fun c c1 c2 => f c (by omega), h4, h5.rows fun c j hc => congrFun (lz c hc) j, h6.cong (fun c c1 c2 => f c (by omega)) (fun _ _ => rfl), h7.cong (f _ (by omega)) (f _ (by omega)) rfl rfl, by rw [f _ (by omega)]; exact h8, h9.cong (f _ (by omega)) rfl rfl rfl (fun c c1 c2 _ => f c (by omega)) (fun _ _ => rfl), ?_⟩
  exact h10.cong h5 (by rw [f _ (by omega)]) rfl rfl (fun c c1 c2 => f c (by omega)) (fun c c1 c2 => f c (by omega)) (fun c j hc _ _ => congrFun (lz c hc) j)
theorem INVp.long (h : INVp N I K J g w p P n L o hh) (z : Int64) : INVp (sL N z) I K J g w p P n L o hh := h
theorem INV2.toJ (h : INV2 N I K J) (hm : MN K') (f : ∀ c, 1528 ≤ c → c ≤ 1536 → J' c = J c) : INV2 N I K' J' := by
  obtain ⟨g, w, p, P, n, L, o, hh, h⟩ := h
  exact ⟨g, w, p, P, n, L, o, hh, h.toJ hm f⟩
theorem INV2.toI (h : INV2 N I K J) (f : ∀ c, ¬ (1528 ≤ c ∧ c ≤ 1536) → I' c = I c) : INV2 N I' K J := by
  obtain ⟨g, w, p, P, n, L, o, hh, h⟩ := h
  exact ⟨g, w, p, P, n, L, o, hh, h.toI f⟩
theorem INV2.shp (h : INV2 N I K J) : Shp N := by
  obtain ⟨g, w, p, P, n, L, o, hh, h⟩ := h
  exact h.1
theorem INV2.long (h : INV2 N I K J) (z : Int64) : INV2 (sL N z) I K J := by
  obtain ⟨g, w, p, P, n, L, o, hh, h⟩ := h
  exact ⟨g, w, p, P, n, L, o, hh, h.long z⟩
theorem sL_self (N : NM) : sL N (N.2.1 1537 0) = N := by
  refine Prod.ext rfl (Prod.ext ?_ rfl)
  refine funext fun c => funext fun j => ?_
  show u2 N.2.1 1537 0 (N.2.1 1537 0) c j = N.2.1 c j
  by_cases e : c = 1537 ∧ j = 0
  · obtain ⟨rfl, rfl⟩ := e; exact u2_s _ _ _ _
  · exact u2_n _ _ _ _ e
theorem sL_at (N : NM) (z : Int64) : (sL N z).2.1 1537 0 = z := u2_s N.2.1 1537 0 z
theorem two (hst : INV2 N I N I) {A : Option ((Int32 × Mem) ⊕ (Nat × Mem))} {B : Mem → Option (Int32 × Mem)} (h : ∀ K J, INV2 N I K J → E2 A (B (J, K)) (Ex tr N I K J)) :
    ∃ I1 N1, (kS N1 1537 = 3 ∧ kN N1 1537 = 1 ∧ kS N1 1528 = 19) ∧ ((∃ v, A = some (.inl (v, (I1, N1))) ∧ ∀ z : Int64, ∃ I2, B (I1, sL N1 z) = some (v, (I2, sL N1 z)) ∧ INV2 (sL N1 z) I2 (sL N1 z) I2 ∧ I2 1528 0 = 0) ∨
      ∃ c v I2, A = some (.inr (c, (I1, N1))) ∧ B (I1, N1) = some (v, (I2, N1)) ∧ INV2 N1 I2 N1 I2 ∧ I2 1528 0 = tr c ∧ tr c ≠ 0) := by
  obtain ⟨u, u', hA, hB, I1, N1, J1, e1, h1, f1, f2, hu⟩ := h N I hst
  have hs1 := h1.shp
  refine ⟨I1, N1, ⟨hs1.2.2.2.2.2.2.2.2.2.1.1, hs1.2.2.2.2.2.2.2.2.2.1.2, hs1.mn.1.1⟩, ?_⟩
  have go : ∀ z : Int64, ∃ I2 v, B (I1, sL N1 z) = some (v, (I2, sL N1 z)) ∧ INV2 (sL N1 z) I2 (sL N1 z) I2 ∧ ((∃ v', u = .inl (v', (I1, N1)) ∧ v = v' ∧ I2 1528 0 = 0) ∨ ∃ c, u = .inr (c, (I1, N1)) ∧ I2 1528 0 = tr c ∧ tr c ≠ 0) := by
    intro z
    obtain ⟨w1, w2, kA, kB, I3, N3, J3, e3, h3, k1, k2, kw⟩ := h (sL N1 z) I1 (hst.toJ (K' := sL N1 z) hs1.mn f1)
    have eu : u = w1 := by rw [hA] at kA; exact Option.some.inj kA
    subst eu
    have e13 : (I3, N3) = (I1, N1) := by
      rcases hu with ⟨v, q1, -, -⟩ | ⟨c, q1, -, -⟩
      · rcases kw with ⟨v', q2, -, -⟩ | ⟨c', q2, -, -⟩
        · rw [q1] at q2; cases q2; rfl
        · rw [q1] at q2; cases q2
      · rcases kw with ⟨v', q2, -, -⟩ | ⟨c', q2, -, -⟩
        · rw [q1] at q2; cases q2
        · rw [q1] at q2; cases q2; rfl
    cases e13
    obtain ⟨v, M⟩ := w2
    have e3 : M = _ := e3
    subst e3
    refine ⟨J3, v, kB, (h3.long z).toI k2, ?_⟩
    rcases kw with ⟨v', q2, q3, q4⟩ | ⟨c', q2, q3, q4⟩
    · exact Or.inl ⟨v', q2, q3, q4⟩
    · exact Or.inr ⟨c', q2, q3, q4⟩
  rcases hu with ⟨v, q1, -, -⟩ | ⟨c, q1, -, -⟩
  · refine Or.inl ⟨v, by rw [hA, q1], fun z => ?_⟩
    obtain ⟨I2, v2, b1, b2, b3⟩ := go z
    rcases b3 with ⟨v', q2, q3, q4⟩ | ⟨c', q2, q3, q4⟩
    · rw [q1] at q2; cases q2
      subst q3
      exact ⟨I2, b1, b2, q4⟩
    · rw [q1] at q2; cases q2
  · obtain ⟨I2, v2, b1, b2, b3⟩ := go (N1.2.1 1537 0)
    rw [sL_self] at b1 b2
    rcases b3 with ⟨v', q2, q3, q4⟩ | ⟨c', q2, q3, q4⟩
    · rw [q1] at q2; cases q2
    · rw [q1] at q2; cases q2
      exact Or.inr ⟨c, v2, I2, by rw [hA, q1], b1, b2, q3, q4⟩
theorem lg_same (x : Int64) : lg_cmp x x = 0 := by
  unfold lg_cmp
  rw [if_neg (by exact Int64.lt_irrefl), if_pos rfl]
abbrev Bo := Option ((Int32 × Mem) ⊕ (Int32 × Mem))
def BQ (s : Int32) (r : (Int32 × Mem) ⊕ (Int32 × Mem)) : Prop := ∃ M, r = .inl (s + 6, M) ∧ St M
theorem bodyX (hst : INV2 N I N I) {A : Option ((Int32 × Mem) ⊕ (Nat × Mem))} {B : Mem → Option (Int32 × Mem)} (h : ∀ K J, INV2 N I K J → E2 A (B (J, K)) (Ex tr N I K J)) {FL : Option (Int32 × Mem)} {C : Nat × Mem → Option (Int32 × Mem)} (hFL : FL = bdX A (fun v1 => (tL v1.2 1537 (0 : Int32) v1.1.toInt64).bind fun m4 => some ((0 : Int32), m4)) C) (hC : ∀ c M, tr c ≠ 0 → C (c, M) = some (tr c, M)) (s : Int32) :
    E1 (FL.bind fun v60 => (ck (qS v60.2 1528 = 19)).bind fun _ => (B v60.2).bind fun v61 => (ck (qS v61.2 1528 = 19)).bind fun _ => (F_Mo_thrown 1528 v61.2).bind fun v63 => if v63 = v60.1 then ((if v60.1 = 0 then ((aL v61.2 1537 (0 : Int32)).bind fun v68 => if (lg_cmp v68 v61.1.toInt64) = 0 then (some false) else (some true)) else (some false) : Option Bool).bind fun b67 => if b67 = true then (some (.inr ((0 : Int32), v61.2))) else (some (.inl ((s + (6 : Int32)), v61.2)))) else (some (.inr ((0 : Int32), v61.2))) : Bo) (BQ s) := by
  subst hFL
  obtain ⟨I1, N1, ⟨k1, k2, k3⟩, ⟨v, hA, hB⟩ | ⟨c, v, I2, hA, hB, h2, e0, hc⟩⟩ := two hst h
  · obtain ⟨I2, b1, b2, b3⟩ := hB v.toInt64
    have k3' : kS (sL N1 v.toInt64) 1528 = 19 := k3
    have k1' : kS (sL N1 v.toInt64) 1537 = 3 := k1
    have k2' : kN (sL N1 v.toInt64) 1537 = 1 := k2
    have et : tL (I1, N1) 1537 (0 : Int32) v.toInt64 = some (I1, sL N1 v.toInt64) := v_tL k1 k2 (n := 0) rfl (by omega) (by omega)
    have ea : aL (I2, sL N1 v.toInt64) 1537 (0 : Int32) = some v.toInt64 := (v_aL k1' k2' (n := 0) rfl (by omega) (by omega)).trans (congrArg some (sL_at _ _))
    unfold F_Mo_thrown
    simp only [hA, bdX_l, et, Option.bind_some, reduceIte, if_true, if_false, Bool.false_eq_true, ck_tt, v_qS, k3', b1, v_fI k3', b3, ea, lg_same]
    exact E1.ok ⟨_, rfl, I2, _, rfl, b2⟩
  · unfold F_Mo_thrown
    have e0' : (tr c = 0) = False := eq_false hc
    simp only [hA, bdX_r, hC c (I1, N1) hc, Option.bind_some, reduceIte, if_true, if_false, Bool.false_eq_true, ck_tt, v_qS, k3, hB, v_fI k3, e0, e0']
    exact E1.ok ⟨_, rfl, I2, _, rfl, h2⟩
theorem bodyXb (hst : INV2 N I N I) {A : Option ((Int32 × Mem) ⊕ (Nat × Mem))} {B : Mem → Option (Int32 × Mem)} (h : ∀ K J, INV2 N I K J → E2 A (B (J, K)) (Ex tr N I K J)) {FL : Option (Int32 × Mem)} {C : Nat × Mem → Option (Int32 × Mem)} (hFL : FL = bdX A (fun v1 => (if v1.1 = 0 then (some (0 : Int64)) else (some (1 : Int64)) : Option (Int64)).bind fun s5 => (tL v1.2 1537 (0 : Int32) s5).bind fun m6 => some ((0 : Int32), m6)) C) (hC : ∀ c M, tr c ≠ 0 → C (c, M) = some (tr c, M)) (s : Int32) :
    E1 (FL.bind fun v146 => (ck (qS v146.2 1528 = 19)).bind fun _ => (B v146.2).bind fun v152 => (ck (qS v152.2 1528 = 19)).bind fun _ => (F_Mo_thrown 1528 v152.2).bind fun v154 => if v154 = v146.1 then (if v146.1 = 0 then ((aL v152.2 1537 (0 : Int32)).bind fun v158 => (if v152.1 = 0 then (some (0 : Int64)) else (some (1 : Int64)) : Option (Int64)).bind fun s160 => if (lg_cmp v158 s160) = 0 then (some (.inl ((s + (6 : Int32)), v152.2))) else (some (.inr ((0 : Int32), v152.2)))) else (some (.inl ((s + (6 : Int32)), v152.2)))) else (some (.inr ((0 : Int32), v152.2))) : Bo) (BQ s) := by
  subst hFL
  obtain ⟨I1, N1, ⟨k1, k2, k3⟩, ⟨v, hA, hB⟩ | ⟨c, v, I2, hA, hB, h2, e0, hc⟩⟩ := two hst h
  · have go : ∀ z : Int64, (if v = 0 then (some (0 : Int64)) else (some (1 : Int64)) : Option (Int64)) = some z → E1 ((bdX A (fun v1 => (if v1.1 = 0 then (some (0 : Int64)) else (some (1 : Int64)) : Option (Int64)).bind fun s5 => (tL v1.2 1537 (0 : Int32) s5).bind fun m6 => some ((0 : Int32), m6)) C).bind fun v146 => (ck (qS v146.2 1528 = 19)).bind fun _ => (B v146.2).bind fun v152 => (ck (qS v152.2 1528 = 19)).bind fun _ => (F_Mo_thrown 1528 v152.2).bind fun v154 => if v154 = v146.1 then (if v146.1 = 0 then ((aL v152.2 1537 (0 : Int32)).bind fun v158 => (if v152.1 = 0 then (some (0 : Int64)) else (some (1 : Int64)) : Option (Int64)).bind fun s160 => if (lg_cmp v158 s160) = 0 then (some (.inl ((s + (6 : Int32)), v152.2))) else (some (.inr ((0 : Int32), v152.2)))) else (some (.inl ((s + (6 : Int32)), v152.2)))) else (some (.inr ((0 : Int32), v152.2))) : Bo) (BQ s) := by
      intro z hz
      obtain ⟨I2, b1, b2, b3⟩ := hB z
      have k3' : kS (sL N1 z) 1528 = 19 := k3
      have k1' : kS (sL N1 z) 1537 = 3 := k1
      have k2' : kN (sL N1 z) 1537 = 1 := k2
      have et : tL (I1, N1) 1537 (0 : Int32) z = some (I1, sL N1 z) := v_tL k1 k2 (n := 0) rfl (by omega) (by omega)
      have ea : aL (I2, sL N1 z) 1537 (0 : Int32) = some z := (v_aL k1' k2' (n := 0) rfl (by omega) (by omega)).trans (congrArg some (sL_at _ _))
      unfold F_Mo_thrown
      simp only [hA, bdX_l, hz, et, Option.bind_some, reduceIte, if_true, if_false, Bool.false_eq_true, ck_tt, v_qS, k3', b1, v_fI k3', b3, ea, lg_same]
      exact E1.ok ⟨_, rfl, I2, _, rfl, b2⟩
    by_cases hv : v = 0
    · exact go 0 (if_pos hv)
    · exact go 1 (if_neg hv)
  · unfold F_Mo_thrown
    have e0' : (tr c = 0) = False := eq_false hc
    simp only [hA, bdX_r, hC c (I1, N1) hc, Option.bind_some, reduceIte, if_true, if_false, Bool.false_eq_true, ck_tt, v_qS, k3, hB, v_fI k3, e0, e0']
    exact E1.ok ⟨_, rfl, I2, _, rfl, h2⟩
theorem bodyP (hst : INV2 N I N I) {A : Option (Int32 × Mem)} {B : Mem → Option (Int32 × Mem)} (h : ∀ K J, INV2 N I K J → E2 A (B (J, K)) (fun u u' => Ex (fun _ => 0) N I K J (.inl u) u')) (s : Int32) :
    E1 (A.bind fun v43 => (ck (qS v43.2 1528 = 19)).bind fun _ => (B v43.2).bind fun v50 => if v43.1 = v50.1 then (some (.inl ((s + (6 : Int32)), v50.2))) else (some (.inr ((0 : Int32), v50.2))) : Bo) (BQ s) := by
  obtain ⟨I1, N1, ⟨k1, k2, k3⟩, ⟨v, hA, hB⟩ | ⟨c, v, I2, hA, hB, h2, e0, hc⟩⟩ := two hst (A := A.bind fun u => some (.inl u)) (B := B) (tr := fun _ => 0) (fun K J hi => E2.bindL (h K J hi) fun a b hab => E1.ok hab)
  · obtain ⟨I2, b1, b2, b3⟩ := hB (N1.2.1 1537 0)
    rw [sL_self] at b1 b2
    cases hA' : A with
    | none => rw [hA'] at hA; cases hA
    | some u =>
      rw [hA'] at hA
      cases hA
      simp only [Option.bind_some, reduceIte, if_true, if_false, Bool.false_eq_true, ck_tt, v_qS, k3, b1]
      exact E1.ok ⟨_, rfl, I2, _, rfl, b2⟩
  · exact absurd rfl hc
theorem bodyQ (hst : INV2 N I N I) {A : Option Int32} {B : Mem → Option (Int32 × Mem)} (h : ∀ K J, INV2 N I K J → E2 A (B (J, K)) (fun u u' => Ex (fun _ => 0) N I K J (.inl (u, (I, N))) u')) (s : Int32) :
    E1 (A.bind fun v80 => (ck (qS (I, N) 1528 = 19)).bind fun _ => (B (I, N)).bind fun v82 => if v80 = v82.1 then (some (.inl ((s + (6 : Int32)), v82.2))) else (some (.inr ((0 : Int32), v82.2))) : Bo) (BQ s) := by
  have := bodyP hst (A := A.bind fun u => some (u, (I, N))) (B := B) (fun K J hi => E2.bindL (h K J hi) fun a b hab => E1.ok hab) s
  rw [Option.bind_assoc] at this
  exact this
theorem bodyI (hst : INV2 N I N I) {A : Option Mem} {B : Mem → Option Mem} (h : ∀ K J, INV2 N I K J → E2 A (B (J, K)) (fun u u' => Ex (fun _ => 0) N I K J (.inl (0, u)) (0, u'))) (s : Int32) :
    E1 (A.bind fun v411 => (ck (qS v411 1528 = 19)).bind fun _ => (B v411).bind fun v413 => some (.inl ((s + (6 : Int32)), v413)) : Bo) (BQ s) := by
  have := bodyP hst (A := A.bind fun u => some (0, u)) (B := fun M => (B M).bind fun u => some (0, u)) (fun K J hi => E2.bind (h K J hi) fun a b hab => E2.ok hab) s
  simp only [Option.bind_assoc, Option.bind_some, if_true] at this
  exact this
/-- a call whose value alone comes back -/
theorem lf_call {A : Option (Int32 ⊕ (Nat × Mem))} {B : Mem → Option (Int32 × Mem)} (h : ∀ K J, INV2 N I K J → E2 A (B (J, K)) (fun u u' => Ex tr N I K J (lf (I, N) u) u')) : ∀ K J, INV2 N I K J → E2 (A.bind fun u => some (lf (I, N) u)) (B (J, K)) (Ex tr N I K J) :=
  fun K J hi => E2.bindL (h K J hi) fun a b hab => E1.ok hab
theorem lf_bd {T : Type} {A : Option (Int32 ⊕ (Nat × Mem))} (f : Int32 → Mem → Option T) (C : Nat × Mem → Option T) : bdX A (fun v => f v M) C = bdX (A.bind fun u => some (lf M u)) (fun v1 => f v1.1 v1.2) C := by
  cases A with
  | none => rfl
  | some u => cases u <;> rfl
end BODY
