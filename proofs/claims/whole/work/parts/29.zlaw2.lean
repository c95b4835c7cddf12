/-! both machines that weigh a law -/
def tkOf (c : Nat) : Nat := [11, 31, 32, 33, 34, 35, 36, 30, 1, 8, 9, 10, 29, 28, 27, 24, 25, 4].getD c 2
def swOf (c : Nat) : Int32 := [1, 13, 14, 15, 16, 17, 18, 29, 21, 24, 25, 26, 23, 27, 28, 19, 20, 22].getD c 0
theorem tsw : ∀ c, c < 18 → (tOrd (tkOf c)).bind swI = some (swOf c) := by decide +kernel
theorem tsw_b {α : Type} {c : Nat} (hc : c < 18) (f : Int32 → Option α) : ((tOrd (tkOf c)).bind fun v8 => (swI v8).bind f) = f (swOf c) := by
  have h := tsw c hc
  cases e : tOrd (tkOf c) with
  | none => rw [e] at h; cases h
  | some t =>
    rw [e] at h
    have h2 : swI t = some (swOf c) := h
    show (swI t).bind f = _
    rw [h2]; rfl
def factV (a : Nat) (I : IM) (v q : Nat) (c : Nat) (x : Int32) : Int32 := match c with
  | 0 => nI q
  | 1 => I (a + 1) q
  | 2 => I (a + 2) q
  | 3 => I a 16 - I a 16 / (7 : Int32) * (7 : Int32)
  | 4 => I (a + 5) v
  | 5 => pcI (I (a + 7) v)
  | 6 => I (a + 6) v
  | 7 => if I a 16 - I a 16 / (7 : Int32) * (7 : Int32) = 0 then 1 else 0
  | _ => x
section LAW
variable {a g w k v q p wt : Nat} {I I' I2 : IM} {W W' : Nat → Int32} {N K : NM} {J : IM} {M M' : Mem}
theorem factV_cong {x : Int32} {c : Nat} (h1 : I' (a + 1) = I (a + 1)) (h2 : I' (a + 2) = I (a + 2)) (h0 : I' a 16 = I a 16) (h5 : I' (a + 5) = I (a + 5)) (h7 : I' (a + 7) = I (a + 7)) (h6 : I' (a + 6) = I (a + 6)) : factV a I' v q c x = factV a I v q c x := by
  unfold factV
  rw [h0, h1, h2, h5, h6, h7]
theorem c_fact (hn : WN N a) (hv : v < 8) (hq : q < 12) {c : Nat} (hc : c ≤ 7) (x : Int32) : F_World_fact a (tkOf c) (nI v) (nI q) (I, N) = some (factV a I v q c x) := by
  unfold F_World_fact
  rw [tsw_b (by omega)]
  have : c = 0 ∨ c = 1 ∨ c = 2 ∨ c = 3 ∨ c = 4 ∨ c = 5 ∨ c = 6 ∨ c = 7 := by omega
  rcases this with rfl | rfl | rfl | rfl | rfl | rfl | rfl | rfl
  all_goals simp (decide := true) only [show swOf 0 = 1 from rfl, show swOf 1 = 13 from rfl, show swOf 2 = 14 from rfl, show swOf 3 = 15 from rfl, show swOf 4 = 16 from rfl, show swOf 5 = 17 from rfl, show swOf 6 = 18 from rfl, show swOf 7 = 29 from rfl, Option.bind_some, reduceIte, if_true, if_false, Bool.false_eq_true, ck_tt, v_qS, wa_k hn, wa_f hn, wa_s hn, wa_r1 hn, wa_r2 hn, wa_r3 hn, wa_r5 hn, wa_r6 hn, wa_r7 hn, wa_r8 hn, wa_r9 hn, wa_r10 hn, wa_r11 hn, wa_g1 hn hq, wa_g2 hn hq, wa_g3 hn hq, wa_h1 hn hq, wa_h2 hn hq, wa_h3 hn hq, wa_w4 hn hv, wa_w5 hn hv, wa_w6 hn hv, wa_w7 hn hv, wa_w8 hn hv, wa_t4 hn hv, wa_t5 hn hv, wa_t6 hn hv, wa_t7 hn hv, wa_t8 hn hv, wa_q9 hn hv, wa_q18 hn hv, jbc]
  all_goals unfold factV
  all_goals first | rfl | skip
  by_cases e : I a 16 - I a 16 / (7 : Int32) * (7 : Int32) = 0
  · rw [if_pos e]; simp only [e, Option.bind_some, reduceIte, if_true, if_false, Bool.false_eq_true, ck_tt]
  · rw [if_neg e]; simp only [e, Option.bind_some, reduceIte, if_true, if_false, Bool.false_eq_true, ck_tt]
theorem m_fact (h : WR a I W g w) (hm : MN K) (hv : v < w) (hq : q < g) {c : Nat} (hc : c ≤ 8) (x : Int32) : F_Mo_factOf 1528 (nI c) x (nI v) (nI q) (rowI J 1529 W, K) = some (factV a I v q c x) := by
  have h8 := h.w8
  have h12 := h.g12
  have hv8 : v < 8 := by omega
  have hq12 : q < 12 := by omega
  have hday : W 4 = I a 16 := h.2.1.2.2.2.1
  obtain ⟨⟨b1, b2, b3⟩, -⟩ := h.ob hq
  obtain ⟨⟨c0, c1, c2, c3, c4, c5⟩, -⟩ := h.oc hv
  unfold F_Mo_factOf
  have : c = 0 ∨ c = 1 ∨ c = 2 ∨ c = 3 ∨ c = 4 ∨ c = 5 ∨ c = 6 ∨ c = 7 ∨ c = 8 := by omega
  rcases this with rfl | rfl | rfl | rfl | rfl | rfl | rfl | rfl | rfl
  all_goals simp (decide := true) only [show nI 0 = (0 : Int32) from rfl, show nI 1 = (1 : Int32) from rfl, show nI 2 = (2 : Int32) from rfl, show nI 3 = (3 : Int32) from rfl, show nI 4 = (4 : Int32) from rfl, show nI 5 = (5 : Int32) from rfl, show nI 6 = (6 : Int32) from rfl, show nI 7 = (7 : Int32) from rfl, show nI 8 = (8 : Int32) from rfl, Option.bind_some, reduceIte, if_true, if_false, Bool.false_eq_true, ck_tt, v_qS, mo_k hm, mw_f hm, mo_r1 hm, mw_gates hm, mw_walkers hm, mw_og0 hm hq12, mw_og1 hm hq12, mw_og2 hm hq12, mw_of0 hm hv8, mw_of1 hm hv8, mw_of2 hm hv8, mw_of3 hm hv8, mw_of4 hm hv8, mw_of5 hm hv8, mw_st0 hm hv8, mw_st1 hm hv8, mw_st2 hm hv8, mw_st3 hm hv8, mw_st4 hm hv8, mw_st5 hm hv8, jbc, mw_a hm (show (4 : Int32) = nI 4 from rfl) (show 4 < 2038 by omega), hday, b1, b2, c1, c2, c3]
  all_goals unfold factV
  all_goals first | rfl | skip
  by_cases e : I a 16 - I a 16 / (7 : Int32) * (7 : Int32) = 0
  · rw [if_pos e]; simp only [e, Option.bind_some, reduceIte, if_true, if_false, Bool.false_eq_true, ck_tt]
  · rw [if_neg e]; simp only [e, Option.bind_some, reduceIte, if_true, if_false, Bool.false_eq_true, ck_tt]
theorem fact7 {x : Int32} : factV a I v q 7 x = 0 ∨ factV a I v q 7 x = 1 := by
  unfold factV
  show (if _ then (1 : Int32) else 0) = 0 ∨ (if _ then (1 : Int32) else 0) = 1
  by_cases e : I a 16 - I a 16 / (7 : Int32) * (7 : Int32) = 0
  · rw [if_pos e]; exact Or.inr rfl
  · rw [if_neg e]; exact Or.inl rfl
/-- a typed step keeps the kinds -/
theorem VT.step {τ τ' : List Bool} {s : List Int32} {x : Nat × Int32} {fv : Nat → Int32 → Int32} (h7 : ∀ y, fv 7 y = 0 ∨ fv 7 y = 1) (hc14 : x.1 ≤ 14) (ht : tyS τ x.1 = some τ') (h : VT τ s) : VT τ' (stp fv s x) := by
  obtain ⟨c, z⟩ := x
  rcases tyS_cases ht with ⟨h1, rfl⟩ | ⟨r, rfl, rfl, rfl⟩ | ⟨r, h1, rfl, rfl⟩ | ⟨r, rfl, rfl, rfl⟩ | ⟨r, h1, rfl, rfl⟩ | ⟨h1, -, -⟩ | ⟨h1, -, -⟩
  · rw [stp_fact h1]
    refine ⟨fun e => ?_, h⟩
    have e7 : c = 7 := by
      by_cases q : c = 7
      · exact q
      · rw [decide_eq_false q] at e; cases e
    show fv c z = 0 ∨ fv c z = 1
    rw [e7]
    exact h7 z
  · obtain ⟨y, x, u, rfl, -, -, hu⟩ := h.two
    exact ⟨fun e => (by cases e), hu⟩
  · obtain ⟨y, x, u, rfl, -, -, hu⟩ := h.two
    rcases h1 with rfl | rfl
    · exact ⟨fun _ => i01, hu⟩
    · exact ⟨fun _ => i01, hu⟩
  · obtain ⟨y, u, rfl, hy, hu⟩ := h.one
    refine ⟨fun _ => ?_, hu⟩
    rcases hy rfl with rfl | rfl
    · exact Or.inr rfl
    · exact Or.inl rfl
  · obtain ⟨y, x, u, rfl, hy, hx, hu⟩ := h.two
    rcases h1 with rfl | rfl
    · refine ⟨fun _ => ?_, hu⟩
      rcases hy rfl with rfl | rfl <;> rcases hx rfl with rfl | rfl <;> first | exact Or.inl rfl | exact Or.inr rfl
    · refine ⟨fun _ => ?_, hu⟩
      rcases hy rfl with rfl | rfl <;> rcases hx rfl with rfl | rfl <;> first | exact Or.inl rfl | exact Or.inr rfl
  · have hx2 : c ≤ 14 := hc14
    omega
  · have hx2 : c ≤ 14 := hc14
    omega
/-- the stack s stands in row wt, its height at p -/
def STK (p wt : Nat) (I : IM) (s : List Int32) : Prop := I p 4 = nI s.length ∧ ∀ k, k < s.length → I wt k = s.getD (s.length - 1 - k) 0
def FLw (p wt : Nat) (I I' : IM) : Prop := ∀ c j, c ≠ wt → ¬ (c = p ∧ j = 4) → I' c j = I c j
theorem FLw.trans (h : FLw p wt I I') (h' : FLw p wt I' I2) : FLw p wt I I2 := fun c j h1 h2 => (h' c j h1 h2).trans (h c j h1 h2)
theorem c_push {s : List Int32} (hp : kS N p = 12) (hr : kR N p 3 = wt) (hk : kS N wt = 1) (hn : kN N wt = 64) (hs : STK p wt I s) (hl : s.length < 64) (x : Int32) : E1 (F_Law_push p x (I, N)) (fun M => ∃ I', M = (I', N) ∧ STK p wt I' (x :: s) ∧ FLw p wt I I') := by
  have hpw : p ≠ wt := fun e => by rw [e, hk] at hp; cases hp
  unfold F_Law_push
  simp only [Option.bind_some, reduceIte, if_true, if_false, Bool.false_eq_true, ck_tt, v_fI hp, v_fR hp, v_sI hp, hr, v_aN (show 1 ≤ kS N wt by omega) (show kS N wt ≤ 6 by omega), hn, hs.1, cm_leF hl (by omega), v_tI hk hn (e := (rfl : nI s.length = nI s.length)) hl (by omega), u2_o _ _ _ _ hpw, nI_1]
  refine E1.ok ⟨_, rfl, ⟨?_, fun k hk' => ?_⟩, fun c j h1 h2 => ?_⟩
  · rw [u2_s]; rfl
  · rw [u2_o _ _ _ _ (fun e => hpw e.symm)]
    have hk2 : k < s.length + 1 := hk'
    by_cases e : k = s.length
    · subst e
      rw [u2_s, show (x :: s).length - 1 - s.length = 0 by simp]
      rfl
    · rw [u2_n _ _ _ _ (fun z => e z.2), hs.2 k (by omega), show (x :: s).length - 1 - k = (s.length - 1 - k) + 1 by simp; omega]
      rfl
  · rw [u2_n _ _ _ _ h2, u2_o _ _ _ _ h1]
theorem c_pop {s : List Int32} {y : Int32} (hp : kS N p = 12) (hr : kR N p 3 = wt) (hk : kS N wt = 1) (hn : kN N wt = 64) (hs : STK p wt I (y :: s)) (hl : s.length < 64) : E1 (F_Law_pop p (I, N)) (fun u => ∃ I', u = (y, (I', N)) ∧ STK p wt I' s ∧ FLw p wt I I') := by
  have hpw : p ≠ wt := fun e => by rw [e, hk] at hp; cases hp
  have h4 : I p 4 = nI (s.length + 1) := hs.1
  unfold F_Law_pop
  simp only [Option.bind_some, reduceIte, if_true, if_false, Bool.false_eq_true, ck_tt, v_fI hp, v_fR hp, v_sI hp, hr, h4, nI_ne0 (Nat.succ_pos s.length) (nat_31 (n := s.length + 1) (by omega)), nI_pred, u2_s, v_aI hk hn (e := (rfl : nI s.length = nI s.length)) hl (by omega)]
  have h5 := hs.2 s.length (Nat.lt_succ_self _)
  rw [show (y :: s).length - 1 - s.length = 0 by simp] at h5
  have h6 : I wt s.length = y := h5
  refine E1.ok ⟨_, Prod.ext ?_ rfl, ⟨?_, fun k hk' => ?_⟩, fun c j h1 h2 => ?_⟩
  · show u2 I p 4 _ wt _ = y
    rw [u2_o _ _ _ _ (fun e => hpw e.symm)]; exact h6
  · rw [u2_s]
  · rw [u2_o _ _ _ _ (fun e => hpw e.symm), hs.2 k (Nat.lt_succ_of_lt hk'), show (y :: s).length - 1 - k = (s.length - 1 - k) + 1 by simp; omega]
    rfl
  · rw [u2_n _ _ _ _ h2]
/-- the law object at p holds the steps l -/
def LawP (N : NM) (I : IM) (p : Nat) (l : List (Nat × Int32)) : Prop :=
  (kS N p = 12 ∧ kR N p 3 ≠ kR N p 2) ∧ (kS N (kR N p 1) = 4 ∧ kN N (kR N p 1) = l.length) ∧ (kS N (kR N p 2) = 1 ∧ kN N (kR N p 2) = l.length) ∧ (kS N (kR N p 3) = 1 ∧ kN N (kR N p 3) = 64) ∧ l.length ≤ 900 ∧ ∀ j x, l[j]? = some x → x.1 < 18 ∧ kR N (kR N p 1) j = tkOf x.1 ∧ I (kR N p 2) j = x.2
theorem LawP.fl {l : List (Nat × Int32)} (h : LawP N I p l) (hF : FLw p (kR N p 3) I I') : LawP N I' p l := by
  obtain ⟨h1, h2, h3, h4, h5, h6⟩ := h
  refine ⟨h1, h2, h3, h4, h5, fun j x hx => ⟨(h6 j x hx).1, (h6 j x hx).2.1, ?_⟩⟩
  rw [hF _ _ (fun e => h1.2 e.symm) (fun e => by
    have := h1.1
    rw [← e.1, h3.1] at this
    cases this)]
  exact (h6 j x hx).2.2
end LAW
