/-! a sum, read by both -/
def cSum : Int32 × Int32 × Mem → Option ((Int32 × Int32 × Mem) ⊕ (Int32 × Mem)) := (fun s1 : Int32 × Int32 × Mem => if (400 : Int32) ≤ s1.2.1 then (some (.inr (((0 : Int32), s1.2.2)))) else ((fR s1.2.2 1074 13 0).bind fun v3 => (ck (qS s1.2.2 v3 = 16)).bind fun h5 => (F_Text_token v3 s1.2.2).bind fun v4 => (ck (v4 ≠ 0)).bind fun h6 => (ck (v4 ≤ 36 ∧ 1 ≤ 36)).bind fun h7 => bdS (V := Int32 × Mem) (if v4 = 1 then ((fR s1.2.2 1074 13 0).bind fun v14 => (ck (qS s1.2.2 v14 = 16)).bind fun h16 => (F_Text_number v14 (3 : Int32) (999 : Int32) s1.2.2).bind fun v15 => some (.inl (v15.1, v15.2))) else ((F_Law_isFact v4 s1.2.2).bind fun v9 => if v9 = 0 then (some (.inr (.inr (((0 : Int32), s1.2.2))))) else ((fR s1.2.2 1074 13 0).bind fun v11 => (ck (qS s1.2.2 v11 = 16)).bind fun h13 => (F_Text_advance v11 s1.2.2).bind fun v12 => some (.inl ((0 : Int32), v12))))) fun s17 => if 0 ≤ s17.1 then ((ck (qS s17.2 1074 = 13)).bind fun h20 => (F_LawReader_write 1074 v4 s17.1 s17.2).bind fun v19 => (if s1.1 = 0 then (some (v19)) else ((ck (qS v19 1074 = 13)).bind fun h23 => (F_LawReader_write 1074 8 (0 : Int32) v19).bind fun v22 => some (v22)) : Option (Mem)).bind fun s24 => (fR s24 1074 13 0).bind fun v25 => (ck (qS s24 v25 = 16)).bind fun h27 => (F_Text_take v25 8 s24).bind fun v26 => if v26.1 = 0 then (some (.inr (((1 : Int32), v26.2)))) else (some (.inl ((1 : Int32), (s1.2.1 + (1 : Int32)), v26.2)))) else (some (.inr (((0 : Int32), s17.2))))))
def mSum : Mem → Option (Mem ⊕ (Int32 × Mem)) := (fun s4 : Mem => (ck (qS s4 1528 = 19)).bind fun h6 => (F_Mo_sign 1528 (43 : Int32) s4).bind fun v5 => if v5.1 = 0 then (some (.inr (((1 : Int32), v5.2)))) else ((ck (qS v5.2 1528 = 19)).bind fun h9 => (F_Mo_readPart 1528 v5.2).bind fun v8 => if v8.1 = 0 then (some (.inr (((0 : Int32), v8.2)))) else ((ck (qS v8.2 1528 = 19)).bind fun h12 => (F_Mo_emits 1528 (9 : Int32) (0 : Int32) v8.2).bind fun v11 => some (.inl v11))))
theorem cSum_e (M : Mem) : F_LawReader_readSum 1074 M = loopN LIM cSum (0, 0, M) := rfl
theorem mSum_e (M : Mem) : F_Mo_readSum 1528 M = (ck (qS M 1528 = 19)).bind fun _ => (F_Mo_readPart 1528 M).bind fun v1 => if v1.1 = 0 then (some ((0 : Int32), v1.2)) else loopN LIM mSum v1.2 := rfl
theorem bdS_bind {α V T : Type} (X : Option α) (F : α → Option (V ⊕ T)) (G : V → Option T) : bdS (X.bind F) G = X.bind fun a => bdS (F a) G := by cases X <;> rfl
theorem bdS_ite {V T : Type} (c : Prop) [Decidable c] (a b : Option (V ⊕ T)) (G : V → Option T) : bdS (if c then a else b) G = if c then bdS a G else bdS b G := by
  by_cases h : c
  · rw [if_pos h, if_pos h]
  · rw [if_neg h, if_neg h]
theorem loopN_s {σ B : Type} (f : Nat) (g : σ → Option (σ ⊕ B)) (s : σ) : loopN (f + 1) g s = bdS (g s) (loopN f g) := rfl
def optl (o : Bool) (c : Nat) : List stT := if o = true then [(c, 0)] else []
def emO (o : Bool) (c : Int32) (M : Mem) : Option Mem := if o = true then (ck (qS M 1528 = 19)).bind fun _ => F_Mo_emits 1528 c 0 M else some M
def ob (o : Bool) : Nat := if o = true then 1 else 0
def obI (o : Bool) : Int32 := if o = true then 1 else 0
section SUM
variable {a k k0 n L q s e r t i c d g w p m dep : Nat} {b st E : Nat → Nat} {I I' I0 : IM} {N N' N0 K : NM} {J J' J0 : IM} {W W' W0 : Nat → Int32} {x y z : Int32} {S R l : List stT} {o : Bool}
/-- the ends of a reader of a law: what it read is l -/
def NT (N0 : NM) (I0 : IM) (K : NM) (J0 : IM) (W0 : Nat → Int32) (b : Nat → Nat) (L n : Nat) (st E : Nat → Nat) (T : List stT → Prop) (e dep : Nat) (S R : List stT) (k : Nat) (u v : Int32 × Mem) : Prop :=
  ∃ I N J W k', u.2 = (I, N) ∧ v.2 = (rowI J 1529 W, K) ∧ FRL N0 I0 J0 W0 1238 N I J W ∧ TC N I b L n st E k' ∧
    ((u.1 = 0 ∧ v.1 = 0 ∧ J 1528 11 = nI (st k')) ∨ (u.1 = 1 ∧ v.1 = 1 ∧ ∃ l, k < k' ∧ l.length + k ≤ k' + e ∧ LQ N I J W b L n st E (S ++ l) (R ++ l) k' dep ∧ T l))
theorem NT.no {T : List stT → Prop} (hF : FRL N0 I0 J0 W0 1238 N I J W) (hT : TC N I b L n st E q) (hr : J 1528 11 = nI (st q)) : NT N0 I0 K J0 W0 b L n st E T e dep S R k (0, (I, N)) (0, (rowI J 1529 W, K)) :=
  ⟨I, N, J, W, q, rfl, rfl, hF, hT, Or.inl ⟨rfl, rfl, hr⟩⟩
theorem NT.pre {T T' : List stT → Prop} {k' e' : Nat} {u v : Int32 × Mem} (h : NT N0 I0 K J0 W0 b L n st E T' e' dep (S ++ l) (R ++ l) k' u v) (hk : k ≤ k') (hl : l.length + k + e' ≤ k' + e) (ht : ∀ l', T' l' → T (l ++ l')) : NT N0 I0 K J0 W0 b L n st E T e dep S R k u v := by
  obtain ⟨I, N, J, W, q, h1, h2, h3, h4, h5 | ⟨h5, h6, l', h7, h8, h9, h10⟩⟩ := h
  · exact ⟨I, N, J, W, q, h1, h2, h3, h4, Or.inl h5⟩
  · refine ⟨I, N, J, W, q, h1, h2, h3, h4, Or.inr ⟨h5, h6, l ++ l', by omega, ?_, ?_, ht l' h10⟩⟩
    · rw [List.length_append]; omega
    · rw [← List.append_assoc, ← List.append_assoc]; exact h9
/-- from the kinds s to t' the steps l lead -/
def TYP (bd : Nat) (f g : List Bool → List Bool) (l : List stT) : Prop := (∀ x, x ∈ l → x.1 ≤ 14) ∧ ∀ s : List Bool, s.length ≤ bd → tyL 60 (f s) l = some (g s)
def TS (o : Bool) (l : List stT) : Prop := TYP 30 (fun s => if o = true then true :: s else s) (fun s => true :: s) l
theorem tyL_1 {D : Nat} {s s' : List Bool} {x : stT} (h : tyS s x.1 = some s') (hd : s'.length ≤ D) : tyL D s [x] = some s' := by
  unfold tyL
  rw [h]
  show (if s'.length ≤ D then tyL D s' [] else none) = _
  rw [if_pos hd]; rfl
/-- one round of a sum, the class's -/
theorem p_sum1 (h : LQ N I J W b L n st E S R k dep) (hs : Shp N) (hm : MN K) (hk : k < n) (hi : i < 400) (hS : S.length + ob o + 1 ≤ 800) (hR : R.length + ob o < 400) {c : Nat} (c8 : c ≤ 8) (c7 : c ≠ 7) (et : kR N 1004 k = tkOf c) (hy : c = 8 → nuV b st E n k 3 999 = y ∧ 0 ≤ y) (hy0 : c < 8 → y = 0) :
    ∃ N2 I2 J2 W2, LQ N2 I2 J2 W2 b L n st E (S ++ ([(c, y)] ++ optl o 9)) (R ++ ([(c, y)] ++ optl o 9)) (k + 1) dep ∧ FRL N I J W 1238 N2 I2 J2 W2 ∧
      cSum (obI o, nI i, (I, N)) = ((F_Text_take 1003 8 (I2, N2)).bind fun v26 => if v26.1 = 0 then (some (.inr (((1 : Int32), v26.2)))) else (some (.inl ((1 : Int32), nI (i + 1), v26.2)))) ∧
      emO o 9 (rowI (emJ (pt J (E (k + 1)) (st k)) R.length) 1529 (emW W R.length (nI c) y), K) = some (rowI J2 1529 W2, K) := by
  have hQ1 := (h.next hk).emit c y
  have hF1 : FRL N I J W 1238 (rN N 1075 S.length (tkOf c)) (emI (u2 I 1003 6 (nI (k + 1))) S.length y) (emJ (pt J (E (k + 1)) (st k)) R.length) (emW W R.length (nI c) y) := (FRL.step (k + 1) (E (k + 1)) (st k)).trans (FRL.emit (Nat.le_refl _))
  have hQ2 := hQ1.emit 9 0
  have hF2 := hF1.trans (FRL.emit (m1 := (S ++ [(c, y)]).length) (m2 := (R ++ [(c, y)]).length) (r := tkOf 9) (x := nI 9) (y := 0) (z := 0) (Nat.le_refl _))
  have hs1 := hF1.shp hs
  obtain ⟨e0, e1, e2, e3, ⟨e4, e5⟩, ⟨e6, e7⟩⟩ := hs.2.2.2.2.2.1
  have x0 := hs.2.2.1.1
  have hr := h.1.1.rng
  have w1 := c_write (N := N) hs (h.next hk).2.1 (by omega) (show c < 18 by omega) (t := kR N 1004 k) et y
  have kk1 : kS (rN N 1075 S.length (tkOf c)) 1074 = 13 := e0
  have kx1 : kS (rN N 1075 S.length (tkOf c)) 1003 = 16 := x0
  have kx2 : kS (rN (rN N 1075 S.length (tkOf c)) 1075 (S ++ [(c, y)]).length (tkOf 9)) 1003 = 16 := x0
  have kk2 : kS (rN (rN N 1075 S.length (tkOf c)) 1075 (S ++ [(c, y)]).length (tkOf 9)) 1074 = 13 := e0
  have r1 : kR (rN N 1075 S.length (tkOf c)) 1074 0 = 1003 := by rw [kR_n _ (by omega)]; exact e1
  have r2 : kR (rN (rN N 1075 S.length (tkOf c)) 1075 (S ++ [(c, y)]).length (tkOf 9)) 1074 0 = 1003 := by rw [kR_n _ (by omega)]; exact r1
  have part : (if kR N 1004 k = 1 then ((fR (I, N) 1074 13 0).bind fun v14 => (ck (qS (I, N) v14 = 16)).bind fun h16 => (F_Text_number v14 (3 : Int32) (999 : Int32) (I, N)).bind fun v15 => some (.inl (v15.1, v15.2))) else ((F_Law_isFact (kR N 1004 k) (I, N)).bind fun v9 => if v9 = 0 then (some (.inr (.inr (((0 : Int32), (I, N)))))) else ((fR (I, N) 1074 13 0).bind fun v11 => (ck (qS (I, N) v11 = 16)).bind fun h13 => (F_Text_advance v11 (I, N)).bind fun v12 => some (.inl ((0 : Int32), v12)))) : Option ((Int32 × Mem) ⊕ ((Int32 × Int32 × Mem) ⊕ (Int32 × Mem)))) = some (.inl (y, (u2 I 1003 6 (nI (k + 1)), N))) := by
    by_cases c1 : c = 8
    · obtain ⟨hy1, hy2⟩ := hy c1
      have e1' : kR N 1004 k = 1 := by rw [et, c1]; rfl
      have hcn := h.1.figC hs (show 3 ≤ 4 by omega) 999
      rw [hy1, if_pos hy2] at hcn
      simp only [e1', Option.bind_some, reduceIte, if_true, if_false, Bool.false_eq_true, ck_tt, v_fR e0, e1, v_qS, x0, show (3 : Int32) = nI 3 from rfl, hcn]
    · have hc6 : c ≤ 6 := by omega
      have hb : factB (kR N 1004 k) = true := by
        rw [et]
        have : c = 0 ∨ c = 1 ∨ c = 2 ∨ c = 3 ∨ c = 4 ∨ c = 5 ∨ c = 6 := by omega
        rcases this with rfl | rfl | rfl | rfl | rfl | rfl | rfl <;> rfl
      have ne1 : (kR N 1004 k = 1) = False := eq_false fun z => by rw [z] at hb; exact absurd hb (by decide)
      simp only [ne1, Option.bind_some, reduceIte, if_true, if_false, Bool.false_eq_true, ck_tt, c_isFact hr.1 hr.2, hb, i32_10, v_fR e0, e1, v_qS, x0, c_adv hs h.1.1 hk, hy0 (by omega)]
  have hyn : (0 : Int32) ≤ y := by
    by_cases c1 : c = 8
    · exact (hy c1).2
    · rw [hy0 (by omega)]; decide
  have ne0 : kR N 1004 k ≠ 0 := by omega
  cases o with
  | false =>
    refine ⟨_, _, _, _, ?_, hF1, ?_, ?_⟩
    · show LQ _ _ _ _ b L n st E (S ++ ([(c, y)] ++ [])) (R ++ ([(c, y)] ++ [])) (k + 1) dep
      rw [List.append_nil]; exact hQ1
    · unfold cSum
      simp only [show ((400 : Int32) ≤ nI i) = False from cm_leF (b := 400) hi (by omega), Option.bind_some, reduceIte, if_true, if_false, Bool.false_eq_true, ck_tt, v_fR e0, e1, v_qS, x0, c_tok hs h.1.1, ck_tt (show kR N 1004 k ≠ 0 from ne0), ck_tt (show kR N 1004 k ≤ 36 ∧ 1 ≤ 36 from ⟨hr.2, by omega⟩)]
      simp only [v_fR e0, e1, v_qS, x0, Option.bind_some, reduceIte, if_true, if_false, Bool.false_eq_true, ck_tt] at part
      rw [part]
      simp only [bdS_l, hyn, Option.bind_some, reduceIte, if_true, if_false, Bool.false_eq_true, ck_tt, v_qS, e0, w1, obI, v_fR kk1, r1, kx1, show nI i + (1 : Int32) = nI (i + 1) from nI_add i 1]
    · unfold emO
      rw [if_neg (by decide)]
  | true =>
    have hl1 : S.length + 1 + 1 ≤ 800 := hS
    have w2 := c_write hs1 hQ1.2.1 (by rw [List.length_append]; show S.length + 1 < 800; omega) (show 9 < 18 by omega) (t := 8) rfl 0
    have m2 := m_emits (W := emW W R.length (nI c) y) hm hQ1.2.2.1 (by rw [List.length_append]; exact hR) 9 0
    refine ⟨_, _, _, _, ?_, hF2, ?_, ?_⟩
    · show LQ _ _ _ _ b L n st E (S ++ ([(c, y)] ++ [(9, 0)])) (R ++ ([(c, y)] ++ [(9, 0)])) (k + 1) dep
      rw [← List.append_assoc, ← List.append_assoc]; exact hQ2
    · unfold cSum
      simp only [show ((400 : Int32) ≤ nI i) = False from cm_leF (b := 400) hi (by omega), Option.bind_some, reduceIte, if_true, if_false, Bool.false_eq_true, ck_tt, v_fR e0, e1, v_qS, x0, c_tok hs h.1.1, ck_tt (show kR N 1004 k ≠ 0 from ne0), ck_tt (show kR N 1004 k ≤ 36 ∧ 1 ≤ 36 from ⟨hr.2, by omega⟩)]
      simp only [v_fR e0, e1, v_qS, x0, Option.bind_some, reduceIte, if_true, if_false, Bool.false_eq_true, ck_tt] at part
      rw [part]
      simp only [bdS_l, hyn, Option.bind_some, reduceIte, if_true, if_false, Bool.false_eq_true, ck_tt, v_qS, e0, w1, obI, i32_10, kk1, w2, v_fR kk2, r2, kx2, show nI i + (1 : Int32) = nI (i + 1) from nI_add i 1]
    · unfold emO
      rw [if_pos rfl]
      simp only [v_qS, mo_k hm, Option.bind_some, reduceIte, if_true, if_false, Bool.false_eq_true, ck_tt]
      exact m2
end SUM
