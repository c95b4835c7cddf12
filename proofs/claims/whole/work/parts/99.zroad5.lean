/-! what a line of a road does to a world -/
section EDIT
variable {a k n q i j c d g w v : Nat} {I I' : IM} {N N' K : NM} {J J' : IM} {W W' : Nat → Int32} {x y z : Int32}
theorem upd_comm {f : Nat → Int32} (h : j ≠ k) : upd (upd f j x) k y = upd (upd f k y) j x := by
  refine funext fun i => ?_
  by_cases e : i = k
  · subst e; rw [pk_us, pk_un (by omega), pk_us]
  · by_cases e' : i = j
    · subst e'; rw [pk_un e, pk_us, pk_us]
    · rw [pk_un e, pk_un e', pk_un e', pk_un e]
theorem WR.wear (h : WR a I W g w) (x : Int32) : WR a (u2 I a 14 x) (upd W 5 x) g w := by
  obtain ⟨-, -, d1, d2, d3, d4, d5, d6⟩ := h.2.1
  refine h.scal (fun c j hc => u2_n _ _ _ _ (by omega)) (fun j hj => pk_un (by omega)) (pk_un (by omega)) (pk_un (by omega)) ?_ ?_ ?_ ?_ ?_ ?_
  · rw [pk_un (by omega), u2_n _ _ _ _ (by omega)]; exact d1
  · rw [pk_un (by omega), u2_n _ _ _ _ (by omega)]; exact d2
  · rw [pk_us, u2_s]
  · rw [pk_un (by omega), u2_n _ _ _ _ (by omega)]; exact d4
  · rw [pk_un (by omega), u2_n _ _ _ _ (by omega)]; exact d5
  · rw [pk_un (by omega), u2_n _ _ _ _ (by omega)]; exact d6
theorem WR.change (h : WR a I W g w) (x : Int32) : WR a (u2 I a 15 x) (upd W 6 x) g w := by
  obtain ⟨-, -, d1, d2, d3, d4, d5, d6⟩ := h.2.1
  refine h.scal (fun c j hc => u2_n _ _ _ _ (by omega)) (fun j hj => pk_un (by omega)) (pk_un (by omega)) (pk_un (by omega)) ?_ ?_ ?_ ?_ ?_ ?_
  · rw [pk_un (by omega), u2_n _ _ _ _ (by omega)]; exact d1
  · rw [pk_un (by omega), u2_n _ _ _ _ (by omega)]; exact d2
  · rw [pk_un (by omega), u2_n _ _ _ _ (by omega)]; exact d3
  · rw [pk_us, u2_s]
  · rw [pk_un (by omega), u2_n _ _ _ _ (by omega)]; exact d5
  · rw [pk_un (by omega), u2_n _ _ _ _ (by omega)]; exact d6
/-- a liar -/
theorem WR.lie (h : WR a I W g w) (hv : v < w) : WR a (u2 I a 12 (I a 12 ||| ((1 : Int32) <<< (nI v &&& 31)))) (upd W (45 + 30 * v + 5) 1) g w := by
  have h8 := h.w8
  have hI : ∀ c j, ¬ (c = a ∧ j = 12) → u2 I a 12 (I a 12 ||| ((1 : Int32) <<< (nI v &&& 31))) c j = I c j := fun c j z => u2_n _ _ _ _ z
  have hW : ∀ j, j ≠ 45 + 30 * v + 5 → upd W (45 + 30 * v + 5) 1 j = W j := fun j z => pk_un z
  have h12 := h.g12
  have hb : ∀ k, k < 32 → bt (u2 I a 12 (I a 12 ||| ((1 : Int32) <<< (nI v &&& 31))) a 12) k = (bt (I a 12) k || decide (k = v)) := fun k hk => by rw [u2_s, bt_or hk, bt_shl (by omega) hk]
  obtain ⟨h1, h2, h3, h4, h5⟩ := h
  refine ⟨h1, ?_, fun k hk => (h3 k hk).congr (hI _ _ (by omega)) (hI _ _ (by omega)) (hI _ _ (by omega)) (fun j hj => hW _ (by omega)), fun k hk => ?_, fun k hk hk8 => ?_⟩
  · unfold WA at h2 ⊢
    simp only [hI a 0 (by omega), hI a 4 (by omega), hI a 13 (by omega), hI a 14 (by omega), hI a 15 (by omega), hI a 16 (by omega), hI a 17 (by omega), hI a 18 (by omega), hW 0 (by omega), hW 1 (by omega), hW 2 (by omega), hW 4 (by omega), hW 5 (by omega), hW 6 (by omega), hW 7 (by omega), hW 8 (by omega)]
    exact h2
  · obtain ⟨⟨c0, c1, c2, c3, c4, c5⟩, c7, c8, c9, c10, c11, c12, c13⟩ := h4 k hk
    unfold WC
    rw [hb k (by omega), hI (a + 4) k (by omega), hI (a + 5) k (by omega), hI (a + 6) k (by omega), hI (a + 7) k (by omega), hI (a + 8) k (by omega), hW (45 + 30 * k + 0) (by omega), hW (45 + 30 * k + 1) (by omega), hW (45 + 30 * k + 2) (by omega), hW (45 + 30 * k + 3) (by omega), hW (45 + 30 * k + 4) (by omega)]
    refine ⟨⟨c0, c1, c2, c3, c4, ?_⟩, fun q hq => ?_, fun q hq hb => ?_, c9, c10, c11, fun q hq => ?_, c13⟩
    · by_cases e : k = v
      · subst e; rw [pk_us, decide_eq_true rfl, Bool.or_true]; rfl
      · rw [hW _ (by omega), decide_eq_false e, Bool.or_false]; exact c5
    · rw [hW _ (by omega), hI _ _ (by omega)]; exact c7 q hq
    · rw [hW _ (by omega), hI _ _ (by omega)]; exact c8 q hq hb
    · rw [hI _ _ (by omega)]; exact c12 q hq
  · obtain ⟨e1, e2, e3, e4, e5⟩ := h5 k hk hk8
    refine ⟨by rw [hI _ _ (by omega)]; exact e1, by rw [hI _ _ (by omega)]; exact e2, by rw [hI _ _ (by omega)]; exact e3, ?_, fun q hq => by rw [hI _ _ (by omega)]; exact e5 q hq⟩
    rw [hb k (by omega), e4, decide_eq_false (by omega)]; rfl
/-- a price -/
theorem WR.price (h : WR a I W g w) (hv : v < w) (hq : q < g) {m : Nat} (hx : m ≤ 99) : WR a (u2 I (a + 19 + v) q (nI m)) (upd W (45 + 30 * v + (18 + q)) (nI m)) g w := by
  have h8 := h.w8
  have h12 := h.g12
  have hI : ∀ c j, ¬ (c = a + 19 + v ∧ j = q) → u2 I (a + 19 + v) q (nI m) c j = I c j := fun c j z => u2_n _ _ _ _ z
  have hW : ∀ j, j ≠ 45 + 30 * v + (18 + q) → upd W (45 + 30 * v + (18 + q)) (nI m) j = W j := fun j z => pk_un z
  refine h.walker hv (fun c j z => hI _ _ (by omega)) (fun j z => hW _ (by omega)) ?_
  obtain ⟨⟨c0, c1, c2, c3, c4, c5⟩, c7, c8, c9, c10, c11, c12, c13⟩ := h.oc hv
  unfold WC
  rw [hI a 12 (by omega), hI (a + 4) v (by omega), hI (a + 5) v (by omega), hI (a + 6) v (by omega), hI (a + 7) v (by omega), hI (a + 8) v (by omega), hW (45 + 30 * v + 0) (by omega), hW (45 + 30 * v + 1) (by omega), hW (45 + 30 * v + 2) (by omega), hW (45 + 30 * v + 3) (by omega), hW (45 + 30 * v + 4) (by omega), hW (45 + 30 * v + 5) (by omega)]
  refine ⟨⟨c0, c1, c2, c3, c4, c5⟩, fun j hj => ?_, fun j hj hb => ?_, c9, c10, c11, fun j hj => ?_, c13⟩
  · by_cases e : j = q
    · subst e; rw [pk_us, u2_s]
    · rw [hW _ (by omega), hI _ _ (by omega)]; exact c7 j hj
  · rw [hW _ (by omega), hI _ _ (by omega)]; exact c8 j hj hb
  · by_cases e : j = q
    · subst e; rw [u2_s]; exact Or.inr ⟨m, hx, rfl⟩
    · rw [hI _ _ (by omega)]; exact c12 j hj
/-- one gate more -/
def gtI (a : Nat) (I : IM) (g : Nat) (x y z : Int32) : IM := u2 (u2 (u2 (u2 I (a + 1) g x) (a + 2) g y) (a + 3) g z) a 0 (nI (g + 1))
def gtW (W : Nat → Int32) (g : Nat) (x y z : Int32) : Nat → Int32 := upd (upd (upd (upd W (9 + 3 * g) x) (9 + 3 * g + 1) y) (9 + 3 * g + 2) z) 0 (nI (g + 1))
theorem gtI_o (h1 : ¬ (c = a ∧ j = 0)) (h2 : ¬ (a + 1 ≤ c ∧ c ≤ a + 3 ∧ j = g)) : gtI a I g x y z c j = I c j := by
  unfold gtI
  rw [u2_n _ _ _ _ h1, u2_n _ _ _ _ (by omega), u2_n _ _ _ _ (by omega), u2_n _ _ _ _ (by omega)]
theorem gtW_o (h1 : j ≠ 0) (h2 : ¬ (9 + 3 * g ≤ j ∧ j < 12 + 3 * g)) : gtW W g x y z j = W j := by
  unfold gtW
  rw [pk_un h1, pk_un (by omega), pk_un (by omega), pk_un (by omega)]
theorem WR.gate (h : WR a I W g w) (hg : g < 12) {t m : Nat} (ht : t ≤ 5) (hm : m ≤ 99) (ho : t = 1 → ∃ o, o < g ∧ z = nI o) : WR a (gtI a I g (nI t) (nI m) z) (gtW W g (nI t) (nI m) z) (g + 1) w := by
  have h8 := h.w8
  obtain ⟨h1, h2, h3, h4, h5⟩ := h
  have f1 : gtI a I g (nI t) (nI m) z (a + 1) g = nI t := by unfold gtI; rw [u2_n _ _ _ _ (by omega), u2_n _ _ _ _ (by omega), u2_n _ _ _ _ (by omega), u2_s]
  have f2 : gtI a I g (nI t) (nI m) z (a + 2) g = nI m := by unfold gtI; rw [u2_n _ _ _ _ (by omega), u2_n _ _ _ _ (by omega), u2_s]
  have f3 : gtI a I g (nI t) (nI m) z (a + 3) g = z := by unfold gtI; rw [u2_n _ _ _ _ (by omega), u2_s]
  refine ⟨⟨by omega, h8⟩, ?_, fun k hk => ?_, fun k hk => ?_, fun k hk hk8 => ?_⟩
  · unfold WA at h2 ⊢
    have gI : ∀ j, j ≠ 0 → gtI a I g (nI t) (nI m) z a j = I a j := fun j hj => gtI_o (by omega) (by omega)
    have gW : ∀ j, j ≠ 0 → j < 9 → gtW W g (nI t) (nI m) z j = W j := fun j hj hj' => gtW_o (by omega) (by omega)
    rw [gI 4 (by omega), gI 13 (by omega), gI 14 (by omega), gI 15 (by omega), gI 16 (by omega), gI 17 (by omega), gI 18 (by omega), gW 1 (by omega) (by omega), gW 2 (by omega) (by omega), gW 4 (by omega) (by omega), gW 5 (by omega) (by omega), gW 6 (by omega) (by omega), gW 7 (by omega) (by omega), gW 8 (by omega) (by omega)]
    refine ⟨⟨?_, ?_⟩, h2.2⟩
    · unfold gtI; rw [u2_s]
    · unfold gtW; rw [pk_us]
  · by_cases e : k = g
    · subst e
      unfold WB
      rw [f1, f2, f3]
      refine ⟨⟨?_, ?_, ?_⟩, ⟨t, ht, rfl⟩, fun e1 => ho ((nI_eq (by omega) (by omega)).mp e1), ⟨m, hm, rfl⟩⟩
      · unfold gtW; rw [pk_un (by omega), pk_un (by omega), pk_un (by omega), Nat.add_zero, pk_us]
      · unfold gtW; rw [pk_un (by omega), pk_un (by omega), pk_us]
      · unfold gtW; rw [pk_un (by omega), pk_us]
    · exact (h3 k (by omega)).congr (gtI_o (by omega) (by omega)) (gtI_o (by omega) (by omega)) (gtI_o (by omega) (by omega)) (fun j hj => gtW_o (by omega) (by omega))
  · obtain ⟨⟨c0, c1, c2, c3, c4, c5⟩, c7, c8, ⟨n9, c9, e9⟩, c10, c11, c12, c13⟩ := h4 k hk
    unfold WC
    rw [gtI_o (a := a) (c := a) (j := 12) (by omega) (by omega), gtI_o (a := a) (c := a + 4) (by omega) (by omega), gtI_o (a := a) (c := a + 5) (by omega) (by omega), gtI_o (a := a) (c := a + 6) (by omega) (by omega), gtI_o (a := a) (c := a + 7) (by omega) (by omega), gtI_o (a := a) (c := a + 8) (by omega) (by omega), gtW_o (j := 45 + 30 * k + 0) (by omega) (by omega), gtW_o (j := 45 + 30 * k + 1) (by omega) (by omega), gtW_o (j := 45 + 30 * k + 2) (by omega) (by omega), gtW_o (j := 45 + 30 * k + 3) (by omega) (by omega), gtW_o (j := 45 + 30 * k + 4) (by omega) (by omega), gtW_o (j := 45 + 30 * k + 5) (by omega) (by omega)]
    refine ⟨⟨c0, c1, c2, c3, c4, c5⟩, fun j hj => ?_, fun j hj hb => ?_, ⟨n9, by omega, e9⟩, fun j j1 j2 => c10 j (by omega) j2, c11, fun j hj => ?_, c13⟩
    · rw [gtW_o (by omega) (by omega), gtI_o (by omega) (by omega)]; exact c7 j hj
    · rw [gtW_o (by omega) (by omega), gtI_o (by omega) (by omega)]
      by_cases e : j = g
      · subst e; rw [c10 j (Nat.le_refl _) (by omega)] at hb; cases hb
      · exact c8 j (by omega) hb
    · rw [gtI_o (by omega) (by omega)]; exact c12 j hj
  · exact (h5 k hk hk8).congr (fun j _ _ => gtI_o (by omega) (by omega)) (gtI_o (by omega) (by omega)) (fun q _ => gtI_o (by omega) (by omega))
theorem c_addGate (hn : WN N a) (e : I a 0 = nI g) (hg : g < 12) (x y z : Int32) : F_World_addGate a x y z (I, N) = some (gtI a I g x y z, N) := by
  unfold F_World_addGate gtI
  simp only [Option.bind_some, reduceIte, if_true, if_false, Bool.false_eq_true, ck_tt, v_qS, wa_k hn, wa_f hn, wa_s hn, wa_r1 hn, wa_r2 hn, wa_r3 hn, wa_r5 hn, wa_r6 hn, wa_r7 hn, wa_r8 hn, wa_r9 hn, wa_r10 hn, wa_r11 hn, e, show ((12 : Int32) ≤ nI g) = False from cm_leF (b := 12) hg (by omega), u2_n _ _ _ _ (show ¬ (a = a + 1 ∧ 0 = g) by omega), u2_n _ _ _ _ (show ¬ (a = a + 2 ∧ 0 = g) by omega), u2_n _ _ _ _ (show ¬ (a = a + 3 ∧ 0 = g) by omega), wa_g1 hn hg, wa_g2 hn hg, wa_g3 hn hg, wa_h1 hn hg, wa_h2 hn hg, wa_h3 hn hg, show nI g + (1 : Int32) = nI (g + 1) from nI_add g 1]
end EDIT
