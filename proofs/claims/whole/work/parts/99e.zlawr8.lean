/-! a line of a law, read by both -/
def bod (P : List lnT) : List stT := P.flatMap fun ln => ln.2.2
theorem bod_c (ln : lnT) (P : List lnT) : bod (ln :: P) = ln.2.2 ++ bod P := by unfold bod; rw [List.flatMap_cons]
theorem bod_s (P : List lnT) (ln : lnT) : bod (P ++ [ln]) = bod P ++ ln.2.2 := by
  unfold bod
  rw [List.flatMap_append]
  simp
theorem flat_s (P : List lnT) (ln : lnT) : (P ++ [ln]).flatMap flat = P.flatMap flat ++ flat ln := by
  rw [List.flatMap_append]
  simp
theorem MLn.congrP {W W' : Nat → Int32} : ∀ {P : List lnT} {n o : Nat}, n + P.length ≤ 12 → (∀ j, 365 ≤ j → j < 365 + 3 * (n + P.length) → W' j = W j) → (∀ j, 401 ≤ j → j < 401 + 2 * (o + (bod P).length) → W' j = W j) → MLn W n o P → MLn W' n o P
  | [], _, _, _, _, _, _ => trivial
  | ln :: P, n, o, hn, e1, e2, ⟨⟨h1, h2, h3⟩, h4, h5, h6⟩ => by
    have hl : (bod (ln :: P)).length = ln.2.2.length + (bod P).length := by rw [bod_c, List.length_append]
    have hn' : n + (P.length + 1) ≤ 12 := hn
    have e1 : ∀ j, 365 ≤ j → j < 365 + 3 * (n + (P.length + 1)) → W' j = W j := e1
    rw [hl] at e2
    refine ⟨⟨?_, ?_, ?_⟩, h4, fun j x hx => ?_, h6.congrP (by omega) (fun j j1 j2 => e1 j j1 (by omega)) (fun j j1 j2 => e2 j j1 (by omega))⟩
    · rw [e1 _ (by omega) (by omega)]; exact h1
    · rw [e1 _ (by omega) (by omega)]; exact h2
    · rw [e1 _ (by omega) (by omega)]; exact h3
    · have : j < ln.2.2.length := by
        rcases Nat.lt_or_ge j ln.2.2.length with z | z
        · exact z
        · rw [List.getElem?_eq_none z] at hx; cases hx
      rw [e2 _ (by omega) (by omega), e2 _ (by omega) (by omega)]
      exact h5 j x hx
theorem MLn.snoc {W : Nat → Int32} {ln : lnT} : ∀ {P : List lnT} {n o : Nat}, MLn W n o P → (W (365 + 3 * (n + P.length)) = (if ln.1 = true then ln.2.1 else -1) ∧ W (365 + 3 * (n + P.length) + 1) = nI (o + (bod P).length) ∧ W (365 + 3 * (n + P.length) + 2) = nI (o + (bod P).length + ln.2.2.length)) → o + (bod P).length + ln.2.2.length ≤ 400 →
    (∀ j x, ln.2.2[j]? = some x → W (401 + 2 * (o + (bod P).length + j)) = nI x.1 ∧ W (401 + 2 * (o + (bod P).length + j) + 1) = x.2) → MLn W n o (P ++ [ln])
  | [], n, o, _, h1, h2, h3 => ⟨h1, h2, h3, trivial⟩
  | l0 :: P, n, o, ⟨g1, g2, g3, g4⟩, h1, h2, h3 => by
    have hl : o + (bod (l0 :: P)).length = o + l0.2.2.length + (bod P).length := by rw [bod_c, List.length_append]; omega
    have e : n + (l0 :: P).length = n + 1 + P.length := by show n + (P.length + 1) = _; omega
    rw [hl, e] at h1
    rw [hl] at h2 h3
    exact ⟨g1, g2, g3, g4.snoc h1 h2 h3⟩
/-- what stays over the lines of a law -/
def FRG (N0 : NM) (I0 J0 : IM) (W0 : Nat → Int32) (N : NM) (I J : IM) (W : Nat → Int32) : Prop :=
  (∀ c, c ≠ 1003 → c ≠ 1074 → c ≠ 1076 → I c = I0 c) ∧ (N.2 = N0.2 ∧ ∀ c, c ≠ 1075 → N.1 c = N0.1 c) ∧ (∀ c j, ¬ (c = 1528 ∧ (j = 9 ∨ j = 11 ∨ j = 12 ∨ j = 15)) → J c j = J0 c j) ∧ ∀ j, j < 1201 → W j = W0 j
/-- both hold the lines P -/
def HL (N : NM) (I J : IM) (W : Nat → Int32) (P : List lnT) : Prop :=
  CD N I (P.flatMap flat) ∧ I 1074 4 = nI P.length ∧ MD J W (bod P) ∧ MLn (fun j => W (837 + j)) 0 0 P ∧ ∀ ln, ln ∈ P → lnOK ln
section LAWL
variable {k k0 n L q s e r t i c d g w p m dep : Nat} {b st E : Nat → Nat} {I I' I0 : IM} {N N' N0 K : NM} {J J' J0 : IM} {W W' W0 : Nat → Int32} {x y z : Int32} {S R l : List stT} {P : List lnT}
theorem FRG.id : FRG N I J W N I J W := ⟨fun _ _ _ _ => rfl, ⟨rfl, fun _ _ => rfl⟩, fun _ _ _ => rfl, fun _ _ => rfl⟩
theorem FRG.trans {I2 J2 : IM} {N2 : NM} {W2 : Nat → Int32} (h : FRG N I J W N' I' J' W') (h' : FRG N' I' J' W' N2 I2 J2 W2) : FRG N I J W N2 I2 J2 W2 :=
  ⟨fun c c1 c2 c3 => (h'.1 c c1 c2 c3).trans (h.1 c c1 c2 c3), ⟨h'.2.1.1.trans h.2.1.1, fun c hc => (h'.2.1.2 c hc).trans (h.2.1.2 c hc)⟩, fun c j z => (h'.2.2.1 c j z).trans (h.2.2.1 c j z), fun j hj => (h'.2.2.2 j hj).trans (h.2.2.2 j hj)⟩
theorem FRL.toG {m : Nat} (h : FRL N I J W m N' I' J' W') (hm : 1201 ≤ m) : FRG N I J W N' I' J' W' := ⟨h.1, ⟨h.2.1.2.1, h.2.1.2.2⟩, h.2.2.1, fun j hj => h.2.2.2 j (by omega)⟩
theorem FRG.nx (h : FRG N0 I0 J0 W0 N I J W) (hs : Shp N0) : NXc N0 N := by
  obtain ⟨-, ⟨h2, h3⟩, -⟩ := h
  have e1 : ∀ b, kS N b = kS N0 b := fun b => by unfold kS; rw [h2]
  have e2 : ∀ b, kN N b = kN N0 b := fun b => by unfold kN; rw [h2]
  have e3 : kZ N = kZ N0 := by unfold kZ; rw [h2]
  exact ⟨fun b _ => ⟨e1 b, e2 b⟩, fun b k _ _ hb _ => congrFun (h3 b hb) k, Nat.le_of_eq e3.symm, fun b hb => by rw [e1]; exact hs.2.2.2.2.2.2.2.2.2.2.2 b (by omega)⟩
theorem FRG.shp (h : FRG N0 I0 J0 W0 N I J W) (hs : Shp N0) : Shp N := hs.nx (h.nx hs)
theorem FRG.wr (h1 : ∀ j, j < 1201 → W' j = W j) : FRG N I J W N I J W' := ⟨fun _ _ _ _ => rfl, ⟨rfl, fun _ _ => rfl⟩, fun _ _ _ => rfl, h1⟩
theorem FRG.cnt (z : Int32) : FRG N I J W N (u2 I 1074 4 z) J W := ⟨fun c c1 c2 c3 => u2_o _ _ _ _ c2, ⟨rfl, fun _ _ => rfl⟩, fun _ _ _ => rfl, fun _ _ => rfl⟩
theorem ix_ll (i : Nat) : (1202 : Int32) + 3 * nI i = nI (1202 + 3 * i) := by
  rw [show (3 : Int32) * nI i = nI (3 * i) from pk_mul 3 i]; exact nI_add 1202 (3 * i)
theorem MD.cells (h : MD J W R) (f : ∀ j, 1238 ≤ j → W' j = W j) : MD J W' R := ⟨h.1, fun j x hx => by rw [f _ (by omega), f _ (by omega)]; exact h.2 j x hx⟩
/-- the ends of a line of a law -/
def LLr (N0 : NM) (I0 : IM) (K : NM) (J0 : IM) (W0 : Nat → Int32) (b : Nat → Nat) (L n : Nat) (st E : Nat → Nat) (P : List lnT) (k : Nat) (u v : Int32 × Mem) : Prop :=
  ∃ I N J W k', u.2 = (I, N) ∧ v.2 = (rowI J 1529 W, K) ∧ FRG N0 I0 J0 W0 N I J W ∧ TC N I b L n st E k' ∧
    ((u.1 = 0 ∧ v.1 = 0 ∧ J 1528 11 = nI (st k')) ∨ (u.1 = 1 ∧ v.1 = 1 ∧ ∃ ln, k < k' ∧ BT N I J b L n st E k' ∧ HL N I J W (P ++ [ln]) ∧ ((P ++ [ln]).flatMap flat).length ≤ 2 * k' ∧ (bod (P ++ [ln])).length ≤ k'))
theorem LLr.no (hF : FRG N0 I0 J0 W0 N I J W) (hT : TC N I b L n st E q) (hr : J 1528 11 = nI (st q)) : LLr N0 I0 K J0 W0 b L n st E P k (0, (I, N)) (0, (rowI J 1529 W, K)) :=
  ⟨I, N, J, W, q, rfl, rfl, hF, hT, Or.inl ⟨rfl, rfl, hr⟩⟩
/-- a line's end: what both write -/
theorem l_end {hd : Bool} {v : Nat} (hH : HL N0 I0 J0 W0 P) (h12 : P.length < 12) (hs : Shp N) (hm : MN K) (hQ : LQ N I J W b L n st E (P.flatMap flat ++ (if l = [] then [(17, 0)] else l)) (bod P ++ l) k dep) (hF : FRG N0 I0 J0 W0 N I J W) (h4 : I 1074 4 = nI P.length)
    (hW : ∀ j, j < 1202 + 3 * P.length → W j = W0 j) (w1 : W (1202 + 3 * P.length) = if hd = true then nI v else -1) (w2 : W (1202 + 3 * P.length + 1) = nI (bod P).length) (hst : ∀ j, 1238 ≤ j → j < 1238 + 2 * (bod P).length → W j = W0 j)
    (hv : v ≤ 999) (hv0 : hd = false → v = 0) (hty : l = [] ∨ tyL 60 [] l = some [false]) (h14 : ∀ x, x ∈ l → x.1 ≤ 14) (hk0 : k0 < k)
    (hS : (P.flatMap flat ++ (if l = [] then [(17, 0)] else l)).length + 1 ≤ 2 * k) (hS8 : (P.flatMap flat ++ (if l = [] then [(17, 0)] else l)).length < 800) (hR : (bod P ++ l).length ≤ k) (hR4 : (bod P ++ l).length ≤ 400) {t : Nat} (ht : t = if hd = true then 24 else 25) :
    E2 ((F_LawReader_write 1074 t (nI v) (I, N)).bind fun v30 => (fI v30 1074 13 4).bind fun v32 => (sI v30 1074 13 4 (v32 + (1 : Int32))).bind fun m33 => some ((1 : Int32), m33))
      ((fR (rowI J 1529 W, K) 1528 19 1).bind fun v28 => (fI (rowI J 1529 W, K) 1528 19 15).bind fun v29 => (tI (rowI J 1529 W, K) v28 (nI (1202 + 3 * P.length) + (2 : Int32)) v29).bind fun m30 => some ((1 : Int32), m30))
      (LLr N0 I0 K J0 W0 b L n st E P k0) := by
  have hc : (if hd = true then 15 else 16) < 18 := by cases hd <;> decide
  have w := c_write hs hQ.2.1 hS8 hc (t := t) (by rw [ht]; cases hd <;> rfl) (nI v)
  have hQe := hQ.2.1.emit (if hd = true then 15 else 16) (nI v)
  have k1 : kS (rN N 1075 (P.flatMap flat ++ (if l = [] then [(17, 0)] else l)).length (tkOf (if hd = true then 15 else 16))) 1074 = 13 := hs.2.2.2.2.2.1.1
  have e4 : emI I (P.flatMap flat ++ (if l = [] then [(17, 0)] else l)).length (nI v) 1074 4 = nI P.length := by
    unfold emI
    rw [u2_n _ _ _ _ (by omega), u2_n _ _ _ _ (by omega)]; exact h4
  simp only [w, Option.bind_some, reduceIte, if_true, if_false, Bool.false_eq_true, ck_tt, v_fI k1, v_sI k1, e4, v_qS, mo_k hm, mw_f hm, mo_r1 hm, mw_gates hm, mw_walkers hm, hQ.2.2.1.1, show nI (1202 + 3 * P.length) + (2 : Int32) = nI (1202 + 3 * P.length + 2) from nI_add _ 2, mw_t hm (show nI (1202 + 3 * P.length + 2) = nI (1202 + 3 * P.length + 2) from rfl) (show 1202 + 3 * P.length + 2 < 2038 by omega), show nI P.length + (1 : Int32) = nI (P.length + 1) from nI_add _ 1]
  have hflat : P.flatMap flat ++ (if l = [] then [(17, 0)] else l) ++ [((if hd = true then 15 else 16), nI v)] = (P ++ [(hd, nI v, l)]).flatMap flat := by
    rw [flat_s, List.append_assoc]
    unfold flat
    rfl
  have hbod : bod P ++ l = bod (P ++ [(hd, nI v, l)]) := (bod_s P (hd, nI v, l)).symm
  have hT := hQ.1.1.emit (P.flatMap flat ++ (if l = [] then [(17, 0)] else l)).length (tkOf (if hd = true then 15 else 16)) (nI v)
  have hT' : TC (rN N 1075 (P.flatMap flat ++ (if l = [] then [(17, 0)] else l)).length (tkOf (if hd = true then 15 else 16))) (u2 (emI I (P.flatMap flat ++ (if l = [] then [(17, 0)] else l)).length (nI v)) 1074 4 (nI (P.length + 1))) b L n st E k := hT.rows fun c c1 c2 => u2_o _ _ _ _ (by omega)
  have hFe : FRL N I J W 1238 (rN N 1075 (P.flatMap flat ++ (if l = [] then [(17, 0)] else l)).length (tkOf (if hd = true then 15 else 16))) (emI I (P.flatMap flat ++ (if l = [] then [(17, 0)] else l)).length (nI v)) J W := by
    have := (FRL.emit (I := I) (N := N) (J := J) (W := W) (m1 := (P.flatMap flat ++ (if l = [] then [(17, 0)] else l)).length) (m2 := 0) (r := tkOf (if hd = true then 15 else 16)) (x := 0) (y := nI v) (z := 0) (Nat.le_refl 1238))
    exact ⟨this.1, this.2.1, fun _ _ _ => rfl, fun _ _ => rfl⟩
  have eW : ∀ j, j ≠ 1202 + 3 * P.length + 2 → upd W (1202 + 3 * P.length + 2) (nI (bod P ++ l).length) j = W j := fun j hj => pk_un hj
  obtain ⟨g1, g2, g3, g4, g5⟩ := hH
  refine E2.ok ⟨_, _, J, _, k, rfl, rfl, hF.trans ((hFe.toG (by omega)).trans ((FRG.cnt _).trans (FRG.wr fun j hj => eW j (by omega)))), hT', Or.inr ⟨rfl, rfl, (hd, nI v, l), hk0, ⟨hT', hQ.1.2⟩, ⟨?_, ?_, ?_, ?_, fun ln hl => ?_⟩, ?_, ?_⟩⟩
  · rw [← hflat]
    exact ⟨by rw [u2_n _ _ _ _ (by omega)]; exact hQe.1, fun j x hx => ⟨(hQe.2 j x hx).1, by rw [u2_n _ _ _ _ (by omega)]; exact (hQe.2 j x hx).2⟩⟩
  · rw [u2_s, List.length_append]; rfl
  · rw [← hbod]
    exact hQ.2.2.1.cells fun j hj => eW j (by omega)
  · have hlen : (bod P ++ l).length = (bod P).length + l.length := List.length_append
    refine MLn.snoc ?_ ⟨?_, ?_, ?_⟩ ?_ fun j x hx => ?_
    · refine g4.congrP (by omega) (fun j j1 j2 => ?_) (fun j j1 j2 => ?_)
      · show upd W _ _ (837 + j) = W0 (837 + j)
        rw [eW _ (by omega), hW _ (by omega)]
      · show upd W _ _ (837 + j) = W0 (837 + j)
        rw [eW _ (by omega), hst _ (by omega) (by omega)]
    · show upd W _ _ (837 + (365 + 3 * (0 + P.length))) = _
      rw [eW _ (by omega), show 837 + (365 + 3 * (0 + P.length)) = 1202 + 3 * P.length by omega]
      exact w1
    · show upd W _ _ (837 + (365 + 3 * (0 + P.length) + 1)) = _
      rw [eW _ (by omega), show 837 + (365 + 3 * (0 + P.length) + 1) = 1202 + 3 * P.length + 1 by omega, Nat.zero_add]
      exact w2
    · show upd W _ _ (837 + (365 + 3 * (0 + P.length) + 2)) = _
      rw [show 837 + (365 + 3 * (0 + P.length) + 2) = 1202 + 3 * P.length + 2 by omega, pk_us, hlen, Nat.zero_add]
    · show 0 + (bod P).length + l.length ≤ 400
      omega
    · have hx : l[j]? = some x := hx
      have := hQ.2.2.1.2 ((bod P).length + j) x (by rw [List.getElem?_append_right (by omega)]; rw [show (bod P).length + j - (bod P).length = j by omega]; exact hx)
      show upd W _ _ (837 + (401 + 2 * (0 + (bod P).length + j))) = _ ∧ upd W _ _ (837 + (401 + 2 * (0 + (bod P).length + j) + 1)) = _
      rw [eW _ (by omega), eW _ (by omega), show 837 + (401 + 2 * (0 + (bod P).length + j)) = 1238 + 2 * ((bod P).length + j) by omega, show 837 + (401 + 2 * (0 + (bod P).length + j) + 1) = 1238 + 2 * ((bod P).length + j) + 1 by omega]
      exact this
  · rcases List.mem_append.mp hl with z | z
    · exact g5 ln z
    · rw [List.mem_singleton.mp z]
      exact ⟨hty, h14, v, hv, rfl⟩
  · rw [← hflat, List.length_append]; exact hS
  · rw [← hbod]; exact hR
end LAWL
