/-! a condition, read by both: and, or -/
def cCnd (fB : Nat → Int32 → Mem → Option (Int32 × Mem)) (a1 : Int32) : Int32 × Int32 × Int32 × Mem → Option ((Int32 × Int32 × Int32 × Mem) ⊕ (Int32 × Mem)) := (fun s1 : Int32 × Int32 × Int32 × Mem => if (400 : Int32) ≤ s1.2.2.1 then (some (.inr (((0 : Int32), s1.2.2.2)))) else ((ck (qS s1.2.2.2 1074 = 13)).bind fun h4 => (fB 1074 a1 s1.2.2.2).bind fun v3 => if v3.1 = 0 then (some (.inr (((0 : Int32), v3.2)))) else ((if s1.1 = 0 then (some (v3.2)) else ((ck (qS v3.2 1074 = 13)).bind fun h8 => (F_LawReader_write 1074 28 (0 : Int32) v3.2).bind fun v7 => some (v7)) : Option (Mem)).bind fun s9 => (fR s9 1074 13 0).bind fun v10 => (ck (qS s9 v10 = 16)).bind fun h12 => (F_Text_take v10 28 s9).bind fun v11 => ((if v11.1 = 0 then (if s1.2.1 = 0 then (some false) else (some true)) else (some false) : Option Bool).bind fun b14 => if b14 = true then ((ck (qS v11.2 1074 = 13)).bind fun h17 => (F_LawReader_write 1074 27 (0 : Int32) v11.2).bind fun v16 => some (v16)) else (some (v11.2)) : Option (Mem)).bind fun s18 => (if v11.1 = 0 then ((fR s18 1074 13 0).bind fun v20 => (ck (qS s18 v20 = 16)).bind fun h22 => (F_Text_take v20 27 s18).bind fun v21 => some (v21.1, v21.2)) else (some (s1.2.1, s18)) : Option (Int32 × Mem)).bind fun s23 => (if v11.1 = 0 then (if s23.1 = 0 then (some true) else (some false)) else (some false) : Option Bool).bind fun b25 => if b25 = true then (some (.inr (((1 : Int32), s23.2)))) else (some (.inl (v11.1, s23.1, (s1.2.2.1 + (1 : Int32)), s23.2))))))
def mAnd (fA : Nat → Mem → Option (Int32 × Mem)) : Mem → Option (Mem ⊕ (Int32 × Mem)) := (fun s4 : Mem => (ck (qS s4 1528 = 19)).bind fun h6 => (F_Mo_passes 1528 154 s4).bind fun v5 => if v5.1 = 0 then (some (.inr (((1 : Int32), v5.2)))) else ((ck (qS v5.2 1528 = 19)).bind fun h9 => (fA 1528 v5.2).bind fun v8 => if v8.1 = 0 then (some (.inr (((0 : Int32), v8.2)))) else ((ck (qS v8.2 1528 = 19)).bind fun h12 => (F_Mo_emits 1528 (13 : Int32) (0 : Int32) v8.2).bind fun v11 => some (.inl v11))))
def mOr (fB : Nat → Mem → Option (Int32 × Mem)) : Mem → Option (Mem ⊕ (Int32 × Mem)) := (fun s4 : Mem => (ck (qS s4 1528 = 19)).bind fun h6 => (F_Mo_passes 1528 155 s4).bind fun v5 => if v5.1 = 0 then (some (.inr (((1 : Int32), v5.2)))) else ((ck (qS v5.2 1528 = 19)).bind fun h9 => (fB 1528 v5.2).bind fun v8 => if v8.1 = 0 then (some (.inr (((0 : Int32), v8.2)))) else ((ck (qS v8.2 1528 = 19)).bind fun h12 => (F_Mo_emits 1528 (14 : Int32) (0 : Int32) v8.2).bind fun v11 => some (.inl v11))))
theorem cCnd_e (d : Nat) (x : Int32) (M : Mem) : F_LawReader_readCondition d 1074 x M = loopN LIM (cCnd (F_LawReader_readAtom d) x) (0, 0, 0, M) := rfl
theorem mAll_e (d : Nat) (M : Mem) : F_Mo_readAllOf d 1528 M = (ck (qS M 1528 = 19)).bind fun _ => (F_Mo_readAtom d 1528 M).bind fun v1 => if v1.1 = 0 then (some ((0 : Int32), v1.2)) else loopN LIM (mAnd (F_Mo_readAtom d)) v1.2 := rfl
theorem mCond_e (d : Nat) (M : Mem) : F_Mo_readCond d 1528 M = (ck (qS M 1528 = 19)).bind fun _ => (F_Mo_readAllOf d 1528 M).bind fun v1 => if v1.1 = 0 then (some ((0 : Int32), v1.2)) else loopN LIM (mOr (F_Mo_readAllOf d)) v1.2 := rfl
theorem bind_ite {α β : Type} (c : Prop) [Decidable c] (a b : Option α) (G : α → Option β) : (if c then a else b).bind G = if c then a.bind G else b.bind G := by
  by_cases h : c
  · rw [if_pos h, if_pos h]
  · rw [if_neg h, if_neg h]
/-- kinds that wait: a before and, o before or -/
def pnd (a o : Bool) (s : List Bool) : List Bool := (if a = true then [false] else []) ++ ((if o = true then [false] else []) ++ s)
section COND
variable {k k0 n L q s e r t i c d g w p m dep : Nat} {b st E : Nat → Nat} {I I' I0 : IM} {N N' N0 K : NM} {J J' J0 : IM} {W W' W0 : Nat → Int32} {x y z : Int32} {S R l : List stT} {a o : Bool}
def AtomR (N0 : NM) (I0 : IM) (K : NM) (J0 : IM) (W0 : Nat → Int32) (b : Nat → Nat) (L n : Nat) (st E : Nat → Nat) (d dep : Nat) : Prop :=
  ∀ (S R : List stT) (N : NM) (I J : IM) (W : Nat → Int32) (k : Nat), LQ N I J W b L n st E S R k dep → FRL N0 I0 J0 W0 1238 N I J W → 1 ≤ k → S.length ≤ 2 * k → R.length + 1 ≤ k →
    E2 (F_LawReader_readAtom d 1074 (nI dep) (I, N)) (F_Mo_readAtom d 1528 (rowI J 1529 W, K)) (NT N0 I0 K J0 W0 b L n st E (TYP (2 * dep + 2) (fun s => s) (fun s => false :: s)) 0 dep S R k)
def CondR (N0 : NM) (I0 : IM) (K : NM) (J0 : IM) (W0 : Nat → Int32) (b : Nat → Nat) (L n : Nat) (st E : Nat → Nat) (d dep : Nat) : Prop :=
  ∀ (S R : List stT) (N : NM) (I J : IM) (W : Nat → Int32) (k : Nat), LQ N I J W b L n st E S R k dep → FRL N0 I0 J0 W0 1238 N I J W → 1 ≤ k → S.length ≤ 2 * k → R.length + 1 ≤ k →
    E2 (F_LawReader_readCondition d 1074 (nI dep) (I, N)) (F_Mo_readCond d 1528 (rowI J 1529 W, K)) (NT N0 I0 K J0 W0 b L n st E (TYP (2 * dep) (fun s => s) (fun s => false :: s)) 0 dep S R k)
/-- a step that may be written -/
theorem p_opt (h : LQ N I J W b L n st E S R k dep) (hs : Shp N) (hm : MN K) (o : Bool) {c t : Nat} (hc : c < 18) (ht : t = tkOf c) (hS : S.length + ob o ≤ 800) (hR : R.length + ob o ≤ 400) :
    ∃ N2 I2 J2 W2, LQ N2 I2 J2 W2 b L n st E (S ++ optl o c) (R ++ optl o c) k dep ∧ FRL N I J W 1238 N2 I2 J2 W2 ∧
      (if obI o = 0 then (some ((I, N) : Mem)) else ((ck (qS (I, N) 1074 = 13)).bind fun h23 => (F_LawReader_write 1074 t (0 : Int32) (I, N)).bind fun v22 => some v22) : Option Mem) = some (I2, N2) ∧ emO o (nI c) (rowI J 1529 W, K) = some (rowI J2 1529 W2, K) := by
  cases o with
  | false =>
    refine ⟨N, I, J, W, ?_, FRL.id, ?_, ?_⟩
    · show LQ _ _ _ _ b L n st E (S ++ []) (R ++ []) k dep
      rw [List.append_nil, List.append_nil]; exact h
    · unfold obI; simp only [Option.bind_some, reduceIte, if_true, if_false, Bool.false_eq_true, ck_tt]
    · unfold emO; rw [if_neg (by decide)]
  | true =>
    have w := c_write (N := N) hs h.2.1 (Nat.lt_of_succ_le hS) hc ht 0
    have mm := m_emits (W := W) hm h.2.2.1 (Nat.lt_of_succ_le hR) (nI c) 0
    have k0 : kS N 1074 = 13 := hs.2.2.2.2.2.1.1
    refine ⟨_, _, _, _, h.emit c 0, FRL.emit (m1 := S.length) (m2 := R.length) (r := tkOf c) (Nat.le_refl _), ?_, ?_⟩
    · unfold obI; simp only [Option.bind_some, reduceIte, if_true, if_false, Bool.false_eq_true, ck_tt, i32_10, v_qS, k0, w]
    · unfold emO
      rw [if_pos rfl]
      simp only [v_qS, mo_k hm, Option.bind_some, reduceIte, if_true, if_false, Bool.false_eq_true, ck_tt]
      exact mm
theorem pnd_ty (ha : TYP (2 * dep + 2) (fun s => s) (fun s => false :: s) l) (hd : dep ≤ 6) (a o : Bool) : TYP (2 * dep) (pnd a o) (pnd true o) (l ++ optl a 13) := by
  have e13 : ∀ s : List Bool, tyS (false :: false :: s) 13 = some (false :: s) := fun s => rfl
  have plen : ∀ s : List Bool, (pnd false o s).length ≤ s.length + 1 := fun s => by cases o <;> simp [pnd]
  refine ⟨fun x hx => (List.mem_append.mp hx).elim (ha.1 x) fun z => ?_, fun s hs => ?_⟩
  · cases a with
    | false => cases z
    | true =>
      have : x = (13, 0) := by simpa [optl] using z
      rw [this]; show 13 ≤ 14; omega
  · have := plen s
    cases a with
    | false =>
      show tyL 60 (pnd false o s) (l ++ []) = _
      rw [List.append_nil]
      exact ha.2 _ (by omega)
    | true =>
      have h1 := ha.2 (false :: pnd false o s) (by show (pnd false o s).length + 1 ≤ _; omega)
      show tyL 60 (false :: pnd false o s) (l ++ [(13, 0)]) = some (false :: pnd false o s)
      rw [tyL_app h1]
      exact tyL_1 (e13 _) (by show (pnd false o s).length + 1 ≤ 60; omega)
theorem pnd_or (ha : TYP (2 * dep) (pnd a o) (pnd true o) l) (hd : dep ≤ 6) : TYP (2 * dep) (pnd a o) (fun s => false :: s) (l ++ optl o 14) := by
  have e14 : ∀ s : List Bool, tyS (false :: false :: s) 14 = some (false :: s) := fun s => rfl
  refine ⟨fun x hx => (List.mem_append.mp hx).elim (ha.1 x) fun z => ?_, fun s hs => ?_⟩
  · cases o with
    | false => cases z
    | true =>
      have : x = (14, 0) := by simpa [optl] using z
      rw [this]; show 14 ≤ 14; omega
  · have h1 := ha.2 s hs
    rw [tyL_app h1]
    cases o with
    | false => rfl
    | true => exact tyL_1 (e14 s) (by show s.length + 1 ≤ 60; omega)
end COND
