/-! the readers of a law: what both hold in the midst of a line -/
abbrev stT := Nat × Int32
/-- the class holds the steps S -/
def CD (N : NM) (I : IM) (S : List stT) : Prop := I 1074 3 = nI S.length ∧ ∀ j x, S[j]? = some x → kR N 1075 j = tkOf x.1 ∧ I 1076 j = x.2
/-- the other side holds the steps R -/
def MD (J : IM) (W : Nat → Int32) (R : List stT) : Prop := J 1528 15 = nI R.length ∧ ∀ j x, R[j]? = some x → W (1238 + 2 * j) = nI x.1 ∧ W (1238 + 2 * j + 1) = x.2
/-- what stays, of both -/
def FRL (N0 : NM) (I0 J0 : IM) (W0 : Nat → Int32) (m : Nat) (N : NM) (I J : IM) (W : Nat → Int32) : Prop :=
  (∀ c, c ≠ 1003 → c ≠ 1074 → c ≠ 1076 → I c = I0 c) ∧ (I 1074 4 = I0 1074 4 ∧ N.2 = N0.2 ∧ ∀ c, c ≠ 1075 → N.1 c = N0.1 c) ∧ (∀ c j, ¬ (c = 1528 ∧ (j = 9 ∨ j = 11 ∨ j = 12 ∨ j = 15)) → J c j = J0 c j) ∧ ∀ j, j < m → W j = W0 j
section LAWR
variable {a k k0 n L q s e r t i c d g w p m dep : Nat} {b st E : Nat → Nat} {I I' I0 : IM} {N N' N0 K : NM} {J J' J0 : IM} {W W' W0 : Nat → Int32} {x y z : Int32} {S R l : List stT}
theorem FRL.id : FRL N I J W m N I J W := ⟨fun _ _ _ _ => rfl, ⟨rfl, rfl, fun _ _ => rfl⟩, fun _ _ _ => rfl, fun _ _ => rfl⟩
theorem FRL.trans {I2 J2 : IM} {N2 : NM} {W2 : Nat → Int32} (h : FRL N I J W m N' I' J' W') (h' : FRL N' I' J' W' m N2 I2 J2 W2) : FRL N I J W m N2 I2 J2 W2 :=
  ⟨fun c c1 c2 c3 => (h'.1 c c1 c2 c3).trans (h.1 c c1 c2 c3), ⟨h'.2.1.1.trans h.2.1.1, h'.2.1.2.1.trans h.2.1.2.1, fun c hc => (h'.2.1.2.2 c hc).trans (h.2.1.2.2 c hc)⟩, fun c j z => (h'.2.2.1 c j z).trans (h.2.2.1 c j z), fun j hj => (h'.2.2.2 j hj).trans (h.2.2.2 j hj)⟩
theorem FRL.low (h : FRL N I J W m N' I' J' W') (hm : k ≤ m) : FRL N I J W k N' I' J' W' := ⟨h.1, h.2.1, h.2.2.1, fun j hj => h.2.2.2 j (by omega)⟩
theorem FRL.nx (h : FRL N0 I0 J0 W0 m N I J W) (hs : Shp N0) : NXc N0 N := by
  obtain ⟨-, ⟨-, h2, h3⟩, -⟩ := h
  have e1 : ∀ b, kS N b = kS N0 b := fun b => by unfold kS; rw [h2]
  have e2 : ∀ b, kN N b = kN N0 b := fun b => by unfold kN; rw [h2]
  have e3 : kZ N = kZ N0 := by unfold kZ; rw [h2]
  exact ⟨fun b _ => ⟨e1 b, e2 b⟩, fun b k _ _ hb _ => congrFun (h3 b hb) k, Nat.le_of_eq e3.symm, fun b hb => by rw [e1]; exact hs.2.2.2.2.2.2.2.2.2.2.2 b (by omega)⟩
theorem FRL.shp (h : FRL N0 I0 J0 W0 m N I J W) (hs : Shp N0) : Shp N := hs.nx (h.nx hs)
/-- the class reads on, the other side's point moves -/
theorem FRL.step (k q r : Nat) : FRL N I J W m N (u2 I 1003 6 (nI k)) (pt J q r) W :=
  ⟨fun c c1 c2 c3 => u2_o _ _ _ _ c1, ⟨u2_n _ _ _ _ (by omega), rfl, fun _ _ => rfl⟩, fun c j z => pt_o _ _ _ (by omega), fun _ _ => rfl⟩
theorem FRL.pt (q r : Nat) : FRL N I J W m N I (pt J q r) W :=
  ⟨fun c c1 c2 c3 => rfl, ⟨rfl, rfl, fun _ _ => rfl⟩, fun c j z => pt_o _ _ _ (by omega), fun _ _ => rfl⟩
theorem FRL.deep (z : Int32) : FRL N I J W m N I (u2 J 1528 12 z) W :=
  ⟨fun c c1 c2 c3 => rfl, ⟨rfl, rfl, fun _ _ => rfl⟩, fun c j z => u2_n _ _ _ _ (by omega), fun _ _ => rfl⟩
/-- both at token k, with steps S and R -/
def LQ (N : NM) (I J : IM) (W : Nat → Int32) (b : Nat → Nat) (L n : Nat) (st E : Nat → Nat) (S R : List stT) (k dep : Nat) : Prop := BT N I J b L n st E k ∧ CD N I S ∧ MD J W R ∧ J 1528 12 = nI dep
theorem CD.step (h : CD N I S) (k : Nat) : CD N (u2 I 1003 6 (nI k)) S := ⟨by rw [u2_n _ _ _ _ (by omega)]; exact h.1, fun j x hx => ⟨(h.2 j x hx).1, by rw [u2_n _ _ _ _ (by omega)]; exact (h.2 j x hx).2⟩⟩
theorem MD.pt (h : MD J W R) (q r : Nat) : MD (pt J q r) W R := ⟨by rw [pt_o _ _ _ (by omega)]; exact h.1, h.2⟩
theorem LQ.stay (h : LQ N I J W b L n st E S R k dep) : LQ N I (pt J (st k) (st k)) W b L n st E S R k dep := ⟨h.1.stay, h.2.1, h.2.2.1.pt _ _, by rw [pt_o _ _ _ (by omega)]; exact h.2.2.2⟩
theorem LQ.next (h : LQ N I J W b L n st E S R k dep) (hk : k < n) : LQ N (u2 I 1003 6 (nI (k + 1))) (pt J (E (k + 1)) (st k)) W b L n st E S R (k + 1) dep := ⟨h.1.next hk, h.2.1.step _, h.2.2.1.pt _ _, by rw [pt_o _ _ _ (by omega)]; exact h.2.2.2⟩
theorem LQ.at (h : LQ N I J W b L n st E S R k dep) (z : Nat) : LQ N I (u2 J 1528 12 (nI z)) W b L n st E S R k z := by
  obtain ⟨⟨h1, ⟨⟨h2, h3⟩, h4⟩, q, h5, h6⟩, h7, h8, h9⟩ := h
  refine ⟨⟨h1, ⟨⟨by rw [u2_n _ _ _ _ (by omega)]; exact h2, h3⟩, fun k hk => ⟨(h4 k hk).1, by rw [u2_n _ _ _ _ (by omega)]; exact (h4 k hk).2⟩⟩, q, by rw [u2_n _ _ _ _ (by omega)]; exact h5, h6⟩, h7, ⟨by rw [u2_n _ _ _ _ (by omega)]; exact h8.1, h8.2⟩, u2_s _ _ _ _⟩
theorem get_app {α : Type} {S : List α} {x y : α} {j : Nat} (h : (S ++ [x])[j]? = some y) : (j < S.length ∧ S[j]? = some y) ∨ (j = S.length ∧ y = x) := by
  by_cases c : j < S.length
  · rw [List.getElem?_append_left c] at h; exact Or.inl ⟨c, h⟩
  · rw [List.getElem?_append_right (by omega)] at h
    by_cases c2 : j = S.length
    · rw [c2, Nat.sub_self] at h
      cases h
      exact Or.inr ⟨c2, rfl⟩
    · rw [List.getElem?_eq_none (by show 1 ≤ _; omega)] at h
      cases h
/-- both write a step -/
def emI (I : IM) (m : Nat) (y : Int32) : IM := u2 (u2 I 1076 m y) 1074 3 (nI (m + 1))
def emJ (J : IM) (m : Nat) : IM := u2 J 1528 15 (nI (m + 1))
def emW (W : Nat → Int32) (m : Nat) (cc y : Int32) : Nat → Int32 := upd (upd W (1238 + 2 * m) cc) (1238 + 2 * m + 1) y
theorem tkOf_r : ∀ c, c < 18 → 1 ≤ tkOf c ∧ tkOf c ≤ 36 := by decide
theorem CD.emit (h : CD N I S) (c : Nat) (y : Int32) : CD (rN N 1075 S.length (tkOf c)) (emI I S.length y) (S ++ [(c, y)]) := by
  refine ⟨?_, fun j x hx => ?_⟩
  · unfold emI; rw [u2_s, List.length_append]; rfl
  · unfold emI
    rw [u2_n _ _ _ _ (by omega)]
    rcases get_app hx with ⟨h1, h2⟩ | ⟨rfl, rfl⟩
    · rw [kR_n _ (by omega), u2_n _ _ _ _ (by omega)]; exact h.2 j x h2
    · exact ⟨u2_s _ _ _ _, u2_s _ _ _ _⟩
theorem MD.emit (h : MD J W R) (c : Nat) (y : Int32) : MD (emJ J R.length) (emW W R.length (nI c) y) (R ++ [(c, y)]) := by
  refine ⟨?_, fun j x hx => ?_⟩
  · unfold emJ; rw [u2_s, List.length_append]; rfl
  · unfold emW
    rcases get_app hx with ⟨h1, h2⟩ | ⟨rfl, rfl⟩
    · rw [pk_un (by omega), pk_un (by omega), pk_un (by omega), pk_un (by omega)]; exact h.2 j x h2
    · rw [pk_un (by omega), pk_us, pk_us]; exact ⟨rfl, rfl⟩
theorem TC.emit (h : TC N I b L n st E k) (m c : Nat) (y : Int32) : TC (rN N 1075 m c) (emI I m y) b L n st E k := by
  have e : ∀ q, kR (rN N 1075 m c) 1004 q = kR N 1004 q := fun q => kR_n _ (by omega)
  obtain ⟨⟨hL, hb⟩, h2, h3, h6, h7, h8, h9⟩ := h
  have f : ∀ c, 1002 ≤ c → c ≤ 1006 → emI I m y c = I c := fun c c1 c2 => by unfold emI; rw [u2_o _ _ _ _ (by omega), u2_o _ _ _ _ (by omega)]
  refine ⟨⟨hL, fun k hk => ⟨(hb k hk).1, by rw [f 1002 (by omega) (by omega)]; exact (hb k hk).2⟩⟩, h2, by rw [f 1003 (by omega) (by omega)]; exact h3, by rw [f 1005 (by omega) (by omega)]; exact h6, by rw [f 1006 (by omega) (by omega)]; exact h7, fun q hq => by rw [e]; exact h8 q hq, by rw [e]; exact h9⟩
theorem LQ.emit (h : LQ N I J W b L n st E S R k dep) (c : Nat) (y : Int32) : LQ (rN N 1075 S.length (tkOf c)) (emI I S.length y) (emJ J R.length) (emW W R.length (nI c) y) b L n st E (S ++ [(c, y)]) (R ++ [(c, y)]) k dep := by
  obtain ⟨⟨h1, ⟨⟨h2, h3⟩, h4⟩, q, h5, h6⟩, h7, h8, h9⟩ := h
  have f : ∀ c j, ¬ (c = 1528 ∧ j = 15) → emJ J R.length c j = J c j := fun c j z => u2_n _ _ _ _ z
  refine ⟨⟨h1.emit _ _ _, ⟨⟨by rw [f _ _ (by omega)]; exact h2, h3⟩, fun k hk => ⟨(h4 k hk).1, by rw [f _ _ (by omega)]; exact (h4 k hk).2⟩⟩, q, by rw [f _ _ (by omega)]; exact h5, h6⟩, h7.emit c y, h8.emit c y, by rw [f _ _ (by omega)]; exact h9⟩
theorem FRL.emit {m1 m2 r : Nat} (hm : m ≤ 1238) : FRL N I J W m (rN N 1075 m1 r) (emI I m1 y) (emJ J m2) (emW W m2 x z) := by
  refine ⟨fun c c1 c2 c3 => ?_, ⟨?_, rfl, fun c hc => u2_o _ _ _ _ hc⟩, fun c j z => u2_n _ _ _ _ (by omega), fun j hj => ?_⟩
  · unfold emI; rw [u2_o _ _ _ _ c2, u2_o _ _ _ _ c3]
  · unfold emI; rw [u2_n _ _ _ _ (by omega), u2_n _ _ _ _ (by omega)]
  · unfold emW; rw [pk_un (by omega), pk_un (by omega)]
/-- the class writes -/
theorem c_write (hs : Shp N) (h : CD N I S) (hl : S.length < 800) (hc : c < 18) {t : Nat} (ht : t = tkOf c) (y : Int32) : F_LawReader_write 1074 t y (I, N) = some (emI I S.length y, rN N 1075 S.length (tkOf c)) := by
  obtain ⟨e0, e1, e2, e3, ⟨e4, e5⟩, ⟨e6, e7⟩⟩ := hs.2.2.2.2.2.1
  have hr := tkOf_r c hc
  subst ht
  have k6 : kS (rN N 1075 S.length (tkOf c)) 1076 = 1 := e6
  have n6 : kN (rN N 1075 S.length (tkOf c)) 1076 = 800 := e7
  have k0 : kS (rN N 1075 S.length (tkOf c)) 1074 = 13 := e0
  have r3 : kR (rN N 1075 S.length (tkOf c)) 1074 2 = 1076 := by rw [kR_n _ (by omega)]; exact e3
  unfold F_LawReader_write emI
  simp only [v_fI e0, v_fR e0, e2, h.1, v_aN (show 1 ≤ kS N 1075 by omega) (show kS N 1075 ≤ 6 by omega), e5, cm_leF hl (show 800 < 2 ^ 31 by omega), Option.bind_some, reduceIte, if_true, if_false, Bool.false_eq_true, ck_tt, v_tT e4 hr e5 (rfl : nI S.length = nI S.length) hl (by omega), v_fI k0, v_fR k0, v_sI k0, r3, v_tI k6 n6 (rfl : nI S.length = nI S.length) hl (by omega), u2_n _ _ _ _ (show ¬ (1074 = 1076 ∧ 3 = S.length) by omega), show nI S.length + (1 : Int32) = nI (S.length + 1) from nI_add _ 1]
/-- the other side writes -/
theorem m_emits (hm : MN K) (h : MD J W R) (hl : R.length < 400) (cc y : Int32) : F_Mo_emits 1528 cc y (rowI J 1529 W, K) = some (rowI (emJ J R.length) 1529 (emW W R.length cc y), K) := by
  have ix : (1238 : Int32) + 2 * nI R.length = nI (1238 + 2 * R.length) := by rw [show (2 : Int32) * nI R.length = nI (2 * R.length) from pk_mul 2 _]; exact nI_add 1238 _
  unfold F_Mo_emits emJ emW
  simp only [Option.bind_some, reduceIte, if_true, if_false, Bool.false_eq_true, ck_tt, v_qS, mo_k hm, mw_f hm, mo_r1 hm, mw_gates hm, mw_walkers hm, h.1, ix, mw_t hm (show nI (1238 + 2 * R.length) = nI (1238 + 2 * R.length) from rfl) (show 1238 + 2 * R.length < 2038 by omega), show nI (1238 + 2 * R.length) + (1 : Int32) = nI (1238 + 2 * R.length + 1) from nI_add _ 1, mw_t hm (show nI (1238 + 2 * R.length + 1) = nI (1238 + 2 * R.length + 1) from rfl) (show 1238 + 2 * R.length + 1 < 2038 by omega), mw_s hm, show nI R.length + (1 : Int32) = nI (R.length + 1) from nI_add _ 1]
end LAWR
