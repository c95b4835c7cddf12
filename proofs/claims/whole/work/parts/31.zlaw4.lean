/-! the other side's machine: a line, all lines; a law's lines -/
abbrev lnT := Bool × Int32 × List (Nat × Int32)
def flat (ln : lnT) : List (Nat × Int32) := (if ln.2.2 = [] then [(17, 0)] else ln.2.2) ++ [(if ln.1 = true then 15 else 16, ln.2.1)]
def lnOK (ln : lnT) : Prop := (ln.2.2 = [] ∨ tyL 60 [] ln.2.2 = some [false]) ∧ (∀ x, x ∈ ln.2.2 → x.1 ≤ 14) ∧ ∃ n, n ≤ 999 ∧ ln.2.1 = nI n
def hld (fv : Nat → Int32 → Int32) (st : List (Nat × Int32)) : Bool := match st.foldl (stp fv) [] with
  | [] => true
  | x :: _ => decide (x = 1)
theorem fold_cst {fv : Nat → Int32 → Int32} {s n : Int32} : ∀ {st : List (Nat × Int32)} {k : List Int32}, (∀ x, x ∈ st → x.1 ≤ 14) → st.foldl (cst fv) (s, n, k) = (s, n, st.foldl (stp fv) k)
  | [], _, _ => rfl
  | x :: r, k, h => by
    show r.foldl (cst fv) (cst fv (s, n, k) x) = _
    rw [cst_low (h x List.mem_cons_self)]
    exact fold_cst fun y hy => h y (List.mem_cons_of_mem _ hy)
theorem fold_ty {fv : Nat → Int32 → Int32} (h7 : ∀ y, fv 7 y = 0 ∨ fv 7 y = 1) : ∀ {st : List (Nat × Int32)} {τ τ' : List Bool} {k : List Int32}, (∀ x, x ∈ st → x.1 ≤ 14) → tyL 60 τ st = some τ' → VT τ k → VT τ' (st.foldl (stp fv) k)
  | [], τ, τ', k, _, ht, hv => by cases ht; exact hv
  | x :: r, τ, τ', k, h, ht, hv => by
    have ht : (tyS τ x.1).bind (fun s' => if s'.length ≤ 60 then tyL 60 s' r else none) = some τ' := ht
    obtain ⟨u, h1, h2⟩ := bd_s ht
    by_cases hu : u.length ≤ 60
    · rw [if_pos hu] at h2
      show VT τ' (r.foldl (stp fv) (stp fv k x))
      exact fold_ty (st := r) h7 (fun y hy => h y (List.mem_cons_of_mem _ hy)) h2 (VT.step h7 (h x List.mem_cons_self) h1 hv)
    · rw [if_neg hu] at h2; cases h2
theorem flat_ty {ln : lnT} (h : lnOK ln) : tyL 60 [] (flat ln) = some [] := by
  obtain ⟨hd, v, st⟩ := ln
  obtain ⟨h1, h2, h3⟩ := h
  have e : ∀ b : Bool, tyL 60 [false] [(if b = true then 15 else 16, v)] = some [] := fun b => by cases b <;> rfl
  unfold flat
  by_cases hs : st = []
  · simp only [hs, if_true]
    show tyL 60 [] ((17, 0) :: [(if hd = true then 15 else 16, v)]) = some []
    exact e hd
  · rw [if_neg hs]
    rcases h1 with h1 | h1
    · exact absurd h1 hs
    · rw [tyL_app h1]; exact e hd
theorem flats_ty : ∀ {P : List lnT}, (∀ ln, ln ∈ P → lnOK ln) → tyL 60 [] (P.flatMap flat) = some []
  | [], _ => rfl
  | ln :: P, h => by
    rw [List.flatMap_cons, tyL_app (flat_ty (h ln List.mem_cons_self))]
    exact flats_ty fun x hx => h x (List.mem_cons_of_mem _ hx)
theorem fold_flat {fv : Nat → Int32 → Int32} (h7 : ∀ y, fv 7 y = 0 ∨ fv 7 y = 1) {ln : lnT} (h : lnOK ln) (s n : Int32) : (flat ln).foldl (cst fv) (s, n, []) = (s + (if hld fv ln.2.2 = true ∧ ln.1 = true then ln.2.1 else 0), (if ln.1 = true then n else if hld fv ln.2.2 = true then 1 else if n = 0 then 0 else 1), []) := by
  obtain ⟨hd, v, st⟩ := ln
  obtain ⟨h1, h2, h3⟩ := h
  have e : ∀ (b : Bool) (x : Int32), [(if b = true then 15 else 16, v)].foldl (cst fv) (s, n, [x]) = (s + (if decide (x = 1) = true ∧ b = true then v else 0), (if b = true then n else if decide (x = 1) = true then 1 else if n = 0 then 0 else 1), []) := by
    intro b x
    cases b with
    | true =>
      show (s + (if x = 1 then v else 0), n, []) = _
      by_cases hx : x = 1 <;> simp [hx]
    | false =>
      show (s, (if x = 1 then (1 : Int32) else if n = 0 then 0 else 1), []) = _
      by_cases hx : x = 1 <;> simp [hx]
  unfold flat
  by_cases hs : st = []
  · subst hs
    exact e hd 1
  · rcases h1 with h1 | h1
    · exact absurd h1 hs
    · have hv : VT [false] (st.foldl (stp fv) []) := fold_ty h7 h2 h1 trivial
      obtain ⟨x, u, e0, -, hu⟩ := hv.one
      cases hu.emp
      simp only [if_neg hs, List.foldl_append, fold_cst h2, e0]
      have e1 : hld fv st = decide (x = 1) := by unfold hld; rw [e0]
      rw [e hd x, e1]
/-- hard lines that hold, added to s; 0 if a never line holds -/
def chM (fv : Nat → Int32 → Int32) (ear : Int32) : List lnT → Int32 → Int32
  | [], s => mMax 0 (ear - s)
  | ln :: r, s => if hld fv ln.2.2 = true then (if ln.1 = true then chM fv ear r (s + ln.2.1) else 0) else chM fv ear r s
theorem chM_cons {fv : Nat → Int32 → Int32} {ear s : Int32} {ln : lnT} {r : List lnT} : chM fv ear (ln :: r) s = if hld fv ln.2.2 = true then (if ln.1 = true then chM fv ear r (s + ln.2.1) else 0) else chM fv ear r s := rfl
theorem chM_fold {fv : Nat → Int32 → Int32} (h7 : ∀ y, fv 7 y = 0 ∨ fv 7 y = 1) (ear : Int32) : ∀ {P : List lnT} (s n : Int32), (∀ ln, ln ∈ P → lnOK ln) → (let R := (P.flatMap flat).foldl (cst fv) (s, n, []); if R.2.1 = 0 then mMax 0 (ear - R.1) else 0) = if n = 0 then chM fv ear P s else 0
  | [], s, n, _ => rfl
  | ln :: P, s, n, h => by
    have hl := h ln List.mem_cons_self
    have ih := fun s n => chM_fold h7 ear (P := P) s n fun x hx => h x (List.mem_cons_of_mem _ hx)
    rw [List.flatMap_cons, List.foldl_append, fold_flat h7 hl]
    rw [ih, chM_cons]
    by_cases hh : hld fv ln.2.2 = true
    · by_cases hd : ln.1 = true
      · simp only [hh, hd, and_self, if_true]
      · by_cases hn : n = 0
        · simp [hh, hd, hn]
        · simp [hh, hd, hn]
    · by_cases hd : ln.1 = true
      · simp [hh, hd]
      · by_cases hn : n = 0
        · simp [hh, hd, hn]
        · simp [hh, hd, hn]
/-- where the other side keeps the lines, from line n and step o on -/
def MLn (W : Nat → Int32) : Nat → Nat → List lnT → Prop
  | _, _, [] => True
  | n, o, ln :: r => (W (365 + 3 * n) = (if ln.1 = true then ln.2.1 else -1) ∧ W (365 + 3 * n + 1) = nI o ∧ W (365 + 3 * n + 2) = nI (o + ln.2.2.length)) ∧ o + ln.2.2.length ≤ 400 ∧ (∀ j x, ln.2.2[j]? = some x → W (401 + 2 * (o + j)) = nI x.1 ∧ W (401 + 2 * (o + j) + 1) = x.2) ∧ MLn W (n + 1) (o + ln.2.2.length) r
theorem MLn.congr {W W' : Nat → Int32} (e : ∀ j, 365 ≤ j → W' j = W j) : ∀ {P : List lnT} {n o : Nat}, MLn W n o P → MLn W' n o P
  | [], _, _, _ => trivial
  | ln :: P, n, o, h => by
    obtain ⟨⟨h1, h2, h3⟩, h4, h5, h6⟩ := h
    refine ⟨⟨?_, ?_, ?_⟩, h4, fun j x hx => ⟨?_, ?_⟩, h6.congr e⟩
    · rw [e _ (by omega)]; exact h1
    · rw [e _ (by omega)]; exact h2
    · rw [e _ (by omega)]; exact h3
    · rw [e _ (by omega)]; exact (h5 j x hx).1
    · rw [e _ (by omega)]; exact (h5 j x hx).2
section LAW5
variable {a g w k v q p wt : Nat} {I I' I2 : IM} {W W' : Nat → Int32} {N K : NM} {J : IM} {M M' : Mem}
theorem u2_rowc {b c k : Nat} (h : c ≠ b) (f : Nat → Int32) (x : Int32) : u2 (rowI J b f) c k x = rowI (u2 J c k x) b f := by
  refine funext fun d => ?_
  by_cases e : d = b
  · subst e; rw [u2_o _ _ _ _ (fun z => h z.symm), rw_s, rw_s]
  · rw [rw_n _ _ e]
    refine funext fun j => ?_
    by_cases e2 : d = c ∧ j = k
    · rw [e2.1, e2.2, u2_s, u2_s]
    · rw [u2_n _ _ _ _ e2, u2_n _ _ _ _ e2, rw_n _ _ e]
theorem ms_a {i : Int32} {n : Nat} (h : MN K) (e : i = nI n) (hn : n < 400) : aI (rowI J 1529 W, K) 1535 i = some (J 1535 n) := by rw [v_aI h.2.2.2.2.2.2.2.1.1 h.2.2.2.2.2.2.2.1.2 e hn (by omega), rw_n _ _ (by omega)]
theorem ms_t {i x : Int32} {n : Nat} (h : MN K) (e : i = nI n) (hn : n < 400) : tI (rowI J 1529 W, K) 1535 i x = some (rowI (u2 J 1535 n x) 1529 W, K) := by rw [v_tI h.2.2.2.2.2.2.2.1.1 h.2.2.2.2.2.2.2.1.2 e hn (by omega), u2_rowc (by omega)]
def STM (J : IM) (s : List Int32) : Prop := ∀ k, k < s.length → J 1535 k = s.getD (s.length - 1 - k) 0
theorem STM.push {s : List Int32} (h : STM J s) (x : Int32) : STM (u2 J 1535 s.length x) (x :: s) := fun k hk => by
  by_cases e : k = s.length
  · subst e
    rw [u2_s, show (x :: s).length - 1 - s.length = 0 by simp]; rfl
  · have hk : k < s.length + 1 := hk
    rw [u2_n _ _ _ _ (fun z => e z.2), h k (by omega), show (x :: s).length - 1 - k = (s.length - 1 - k) + 1 by simp; omega]
    rfl
theorem STM.pop {s : List Int32} {y : Int32} (h : STM J (y :: s)) : J 1535 s.length = y ∧ STM J s := by
  constructor
  · have := h s.length (Nat.lt_succ_self _)
    rw [show (y :: s).length - 1 - s.length = 0 by simp] at this
    exact this
  · intro k hk
    rw [h k (Nat.lt_succ_of_lt hk), show (y :: s).length - 1 - k = (s.length - 1 - k) + 1 by simp; omega]
    rfl
theorem ix_l (b n k : Nat) : (nI b + (3 : Int32) * nI n) + nI k = nI (b + 3 * n + k) := by
  rw [show (3 : Int32) = nI 3 from rfl, pk_mul, nI_add, nI_add]
theorem ix_s (b n : Nat) : (nI b + (2 : Int32) * nI n) = nI (b + 2 * n) := by
  rw [show (2 : Int32) = nI 2 from rfl, pk_mul, nI_add]
theorem and_2 : ∀ x y : Int32, (x = 0 ∨ x = 1) → (y = 0 ∨ y = 1) → (if x + y = (2 : Int32) then (1 : Int32) else 0) = x &&& y := by
  rintro x y (rfl | rfl) (rfl | rfl) <;> decide
theorem or_2 : ∀ x y : Int32, (x = 0 ∨ x = 1) → (y = 0 ∨ y = 1) → (if x + y ≤ (0 : Int32) then (0 : Int32) else 1) = x ||| y := by
  rintro x y (rfl | rfl) (rfl | rfl) <;> decide
theorem or0 {x : Int32} (h : x = 0 ∨ x = 1) : (if x = 0 then (0 : Int32) else 1) = x := by
  rcases h with rfl | rfl <;> decide
theorem m_holds (h : WR a I W g w) (hm : MN K) (hv : v < w) (hq : q < g) {n o : Nat} {st : List (Nat × Int32)} (hn : n < 12) (e1 : W (365 + 3 * n + 1) = nI o) (e2 : W (365 + 3 * n + 2) = nI (o + st.length)) (h400 : o + st.length ≤ 400) (es : ∀ j x, st[j]? = some x → W (401 + 2 * (o + j)) = nI x.1 ∧ W (401 + 2 * (o + j) + 1) = x.2) (h14 : ∀ x, x ∈ st → x.1 ≤ 14) (ht : st = [] ∨ tyL 60 [] st = some [false]) :
    E1 (F_Mo_holdsLine 1528 (nI n) (nI v) (nI q) (rowI J 1529 W, K)) (fun u => ∃ J', u = ((if hld (factV a I v q) st = true then 1 else 0), (rowI J' 1529 W, K)) ∧ ∀ c, c ≠ 1535 → J' c = J c) := by
  have h7 : ∀ y, factV a I v q 7 y = 0 ∨ factV a I v q 7 y = 1 := fun y => fact7
  have r16 : ∀ J : IM, fR (rowI J 1529 W, K) 1528 19 16 = some 1535 := fun J => mo_r16 hm
  obtain ⟨τf, htf, hte⟩ : ∃ τf, tyL 60 [] st = some τf ∧ (τf = [] → st = []) := by
    rcases ht with rfl | ht
    · exact ⟨[], rfl, fun _ => rfl⟩
    · exact ⟨_, ht, fun z => by cases z⟩
  unfold F_Mo_holdsLine
  simp only [Option.bind_some, reduceIte, if_true, if_false, Bool.false_eq_true, ck_tt, v_qS, mo_k hm, mw_f hm, mo_r1 hm, mw_gates hm, mw_walkers hm, mw_a hm (show ((365 : Int32) + (3 : Int32) * nI n) + (1 : Int32) = nI (365 + 3 * n + 1) from ix_l 365 n 1) (by omega), e1]
  refine E1.bind (P := fun u => ∃ J', u = (nI (st.foldl (stp (factV a I v q)) []).length, (rowI J' 1529 W, K)) ∧ (∀ c, c ≠ 1535 → J' c = J c) ∧ STM J' (st.foldl (stp (factV a I v q)) []) ∧ (st.foldl (stp (factV a I v q)) []).length ≤ 60) ?_ ?_
  · refine lq1 (fun i s => ∃ (rest : List (Nat × Int32)) (τ : List Bool) (stk : List Int32) (J1 : IM), s = (nI stk.length, nI (o + i), (rowI J1 1529 W, K)) ∧ st.drop i = rest ∧ tyL 60 τ rest = some τf ∧ VT τ stk ∧ τ.length ≤ 60 ∧ rest.foldl (stp (factV a I v q)) stk = st.foldl (stp (factV a I v q)) [] ∧ STM J1 stk ∧ ∀ c, c ≠ 1535 → J1 c = J c) _ st.length (lim_lt (by omega)) (Nat.zero_le _) ⟨st, [], [], J, rfl, rfl, htf, trivial, Nat.zero_le _, rfl, fun k hk => absurd hk (Nat.not_lt_zero _), fun _ _ => rfl⟩ ?_ ?_
    · rintro i s hi ⟨rest, τ, stk, J1, rfl, hdr, hty, hvt, hτ, hfo, hst, hfr⟩
      cases rest with
      | nil =>
        have := congrArg List.length hdr
        simp at this
        omega
      | cons x r =>
        obtain ⟨hx, hdr2⟩ := drop_at hdr
        have hx14 : x.1 ≤ 14 := h14 x (List.mem_of_getElem? hx)
        obtain ⟨x1, x2⟩ := es i x hx
        have hlen : stk.length = τ.length := hvt.len
        have hty2 : (tyS τ x.1).bind (fun s' => if s'.length ≤ 60 then tyL 60 s' r else none) = some τf := hty
        obtain ⟨τ', ht1, ht2⟩ := bd_s hty2
        by_cases hτ' : τ'.length ≤ 60
        · rw [if_pos hτ'] at ht2
          have hvt' := VT.step h7 hx14 ht1 hvt
          simp only [Option.bind_some, reduceIte, if_true, if_false, Bool.false_eq_true, ck_tt, v_qS, mo_k hm, mw_f hm, mo_r1 hm, mw_gates hm, mw_walkers hm, r16, mw_a hm (show ((365 : Int32) + (3 : Int32) * nI n) + (2 : Int32) = nI (365 + 3 * n + 2) from ix_l 365 n 2) (by omega), e2, cm_leF (show o + i < o + st.length by omega) (nat_31 (n := o + st.length) (by omega)), mw_a hm (show (401 : Int32) + (2 : Int32) * nI (o + i) = nI (401 + 2 * (o + i)) from ix_s 401 (o + i)) (by omega), x1, mw_a hm (show ((401 : Int32) + (2 : Int32) * nI (o + i)) + (1 : Int32) = nI (401 + 2 * (o + i) + 1) by rw [show (401 : Int32) + (2 : Int32) * nI (o + i) = nI (401 + 2 * (o + i)) from ix_s 401 (o + i), nI_1]) (by omega), x2]
          have fin : ∀ (stk' : List Int32) (J' : IM), stp (factV a I v q) stk x = stk' → STM J' stk' → (∀ c, c ≠ 1535 → J' c = J1 c) → ∀ y : Int32, y = nI stk'.length → E1 (some (Sum.inl (y, nI (o + i) + 1, (rowI J' 1529 W, K))) : Option ((Int32 × Int32 × Mem) ⊕ (Int32 × Mem))) (Sum.elim (fun s => ∃ (rest : List (Nat × Int32)) (τ : List Bool) (stk : List Int32) (J1 : IM), s = (nI stk.length, nI (o + (i + 1)), (rowI J1 1529 W, K)) ∧ st.drop (i + 1) = rest ∧ tyL 60 τ rest = some τf ∧ VT τ stk ∧ τ.length ≤ 60 ∧ rest.foldl (stp (factV a I v q)) stk = st.foldl (stp (factV a I v q)) [] ∧ STM J1 stk ∧ ∀ c, c ≠ 1535 → J1 c = J c) (fun u => ∃ J', u = (nI (st.foldl (stp (factV a I v q)) []).length, (rowI J' 1529 W, K)) ∧ (∀ c, c ≠ 1535 → J' c = J c) ∧ STM J' (st.foldl (stp (factV a I v q)) []) ∧ (st.foldl (stp (factV a I v q)) []).length ≤ 60)) := by
            rintro stk' J' e1 e2 e3 y rfl
            refine E1.ok ⟨r, τ', stk', J', ?_, hdr2, ht2, e1 ▸ hvt', hτ', ?_, e2, fun c hc => (e3 c hc).trans (hfr c hc)⟩
            · rw [nI_1]; rfl
            · rw [← hfo, ← e1]; rfl
          obtain ⟨c, z⟩ := x
          have bins : ∀ (c' : Nat), c' = c → (c' = 9 ∨ c' = 10 ∨ c' = 11 ∨ c' = 13 ∨ c' = 14) → ∀ b b' r', τ = b :: b' :: r' → (c' = 13 ∨ c' = 14 → b = false ∧ b' = false) → ∃ y x u, stk = y :: x :: u ∧ J1 1535 (u.length + 1) = y ∧ J1 1535 u.length = x ∧ STM J1 u ∧ u.length < 60 ∧ stp (factV a I v q) stk (c, z) = bin c x y :: u ∧ (c' = 13 ∨ c' = 14 → (y = 0 ∨ y = 1) ∧ (x = 0 ∨ x = 1)) := by
            rintro c' rfl hc b b' r' rfl hb
            obtain ⟨y, x, u, e0, hy, hx0, hu⟩ := hvt.two
            subst e0
            have p1 := hst.pop
            have p2 := p1.2.pop
            exact ⟨y, x, u, rfl, p1.1, p2.1, p2.2, by simp at hlen hτ; omega, stp_bin hc, fun z => ⟨hy (hb z).1, hx0 (hb z).2⟩⟩
          have c9 : ∀ c', c' = c → c' ≠ 12 → 8 < c' → ∀ (y x : Int32) (u : List Int32), stk = y :: x :: u → (nI stk.length + (-1 : Int32)) = nI (u.length + 1) ∧ (nI stk.length + (-1 : Int32)) - (1 : Int32) = nI u.length := by
            rintro c' - - - y x u rfl
            have e5 : nI (y :: x :: u).length + (-1 : Int32) = nI (u.length + 1) := pk_m1 (u.length + 1)
            exact ⟨e5, by rw [e5]; exact nI_pred u.length⟩
          rcases tyS_cases ht1 with ⟨h1, h2⟩ | ⟨r', h1, h2, h3⟩ | ⟨r', h1, h2, h3⟩ | ⟨r', h1, h2, h3⟩ | ⟨r', h1, h2, h3⟩ | ⟨h1, h2, h3⟩ | ⟨h1, h2, h3⟩
          · have h1 : c ≤ 8 := h1
            simp only [show ((8 : Int32) < nI c) = False from cm_ltF (a := 8) (b := c) h1 (by omega), Option.bind_some, reduceIte, if_true, if_false, Bool.false_eq_true, ck_tt, m_fact h hm hv hq h1 z, ms_t hm (rfl : nI stk.length = nI stk.length) (by omega)]
            exact fin (factV a I v q c z :: stk) _ (stp_fact h1) (hst.push _) (fun c hc => u2_o _ _ _ _ hc) _ (nI_1 _)
          · have h1 : c = 9 := h1
            subst h1
            obtain ⟨y, x, u, rfl, p1, p2, p3, hul, hs9, -⟩ := bins 9 rfl (by omega) _ _ _ h2 (by omega)
            obtain ⟨q1, q2⟩ := c9 9 rfl (by omega) (by omega) y x u rfl
            simp (decide := true) only [show nI 9 = (9 : Int32) from rfl, Option.bind_some, reduceIte, if_true, if_false, Bool.false_eq_true, ck_tt, q1, nI_pred, ms_a hm (rfl : nI (u.length + 1) = nI (u.length + 1)) (by omega), ms_a hm (rfl : nI u.length = nI u.length) (by omega), p1, p2]
            by_cases e : x + y ≤ 0
            · simp only [e, Option.bind_some, reduceIte, if_true, if_false, Bool.false_eq_true, ck_tt, ms_t hm (rfl : nI u.length = nI u.length) (show u.length < 400 by omega)]
              exact fin (bin 9 x y :: u) _ hs9 (p3.push _) (fun c hc => u2_o _ _ _ _ hc) _ rfl
            · simp only [e, Option.bind_some, reduceIte, if_true, if_false, Bool.false_eq_true, ck_tt, ms_t hm (rfl : nI u.length = nI u.length) (show u.length < 400 by omega)]
              exact fin (bin 9 x y :: u) _ hs9 (p3.push _) (fun c hc => u2_o _ _ _ _ hc) _ rfl
          · have h1 : c = 10 ∨ c = 11 := h1
            rcases h1 with rfl | rfl
            · obtain ⟨y, x, u, rfl, p1, p2, p3, hul, hs9, -⟩ := bins 10 rfl (by omega) _ _ _ h2 (by omega)
              obtain ⟨q1, q2⟩ := c9 10 rfl (by omega) (by omega) y x u rfl
              simp (decide := true) only [show nI 10 = (10 : Int32) from rfl, Option.bind_some, reduceIte, if_true, if_false, Bool.false_eq_true, ck_tt, q1, nI_pred, ms_a hm (rfl : nI (u.length + 1) = nI (u.length + 1)) (by omega), ms_a hm (rfl : nI u.length = nI u.length) (by omega), p1, p2]
              have hb : bin 10 x y = if y ≤ x then 0 else 1 := rfl
              by_cases e : y ≤ x
              · rw [if_pos e] at hb
                simp only [e, Option.bind_some, reduceIte, if_true, if_false, Bool.false_eq_true, ck_tt, ms_t hm (rfl : nI u.length = nI u.length) (show u.length < 400 by omega)]
                exact fin (0 :: u) _ (hs9.trans (by rw [hb])) (p3.push _) (fun c hc => u2_o _ _ _ _ hc) _ rfl
              · rw [if_neg e] at hb
                simp only [e, Option.bind_some, reduceIte, if_true, if_false, Bool.false_eq_true, ck_tt, i32_10, ms_t hm (rfl : nI u.length = nI u.length) (show u.length < 400 by omega)]
                exact fin (1 :: u) _ (hs9.trans (by rw [hb])) (p3.push _) (fun c hc => u2_o _ _ _ _ hc) _ rfl
            · obtain ⟨y, x, u, rfl, p1, p2, p3, hul, hs9, -⟩ := bins 11 rfl (by omega) _ _ _ h2 (by omega)
              obtain ⟨q1, q2⟩ := c9 11 rfl (by omega) (by omega) y x u rfl
              simp (decide := true) only [show nI 11 = (11 : Int32) from rfl, Option.bind_some, reduceIte, if_true, if_false, Bool.false_eq_true, ck_tt, q1, nI_pred, ms_a hm (rfl : nI (u.length + 1) = nI (u.length + 1)) (by omega), ms_a hm (rfl : nI u.length = nI u.length) (by omega), p1, p2]
              have hb : bin 11 x y = if x ≤ y then 0 else 1 := rfl
              by_cases e : x ≤ y
              · rw [if_pos e] at hb
                simp only [e, Option.bind_some, reduceIte, if_true, if_false, Bool.false_eq_true, ck_tt, ms_t hm (rfl : nI u.length = nI u.length) (show u.length < 400 by omega)]
                exact fin (0 :: u) _ (hs9.trans (by rw [hb])) (p3.push _) (fun c hc => u2_o _ _ _ _ hc) _ rfl
              · rw [if_neg e] at hb
                simp only [e, Option.bind_some, reduceIte, if_true, if_false, Bool.false_eq_true, ck_tt, i32_10, ms_t hm (rfl : nI u.length = nI u.length) (show u.length < 400 by omega)]
                exact fin (1 :: u) _ (hs9.trans (by rw [hb])) (p3.push _) (fun c hc => u2_o _ _ _ _ hc) _ rfl
          · have h1 : c = 12 := h1
            subst h1
            subst h2
            obtain ⟨y, u, e0, -, hu⟩ := hvt.one
            subst e0
            have hul : u.length < 60 := by simp at hlen hτ; omega
            have p1 := hst.pop
            have q1 : nI (y :: u).length - (1 : Int32) = nI u.length := nI_pred u.length
            simp (decide := true) only [show nI 12 = (12 : Int32) from rfl, Option.bind_some, reduceIte, if_true, if_false, Bool.false_eq_true, ck_tt, q1, ms_a hm (rfl : nI u.length = nI u.length) (show u.length < 400 by omega), p1.1, ms_t hm (rfl : nI u.length = nI u.length) (show u.length < 400 by omega)]
            exact fin ((1 - y) :: u) _ rfl (p1.2.push _) (fun c hc => u2_o _ _ _ _ hc) _ rfl
          · have h1 : c = 13 ∨ c = 14 := h1
            rcases h1 with rfl | rfl
            · obtain ⟨y, x, u, rfl, p1, p2, p3, hul, hs9, hyx⟩ := bins 13 rfl (by omega) _ _ _ h2 (fun _ => ⟨rfl, rfl⟩)
              obtain ⟨q1, q2⟩ := c9 13 rfl (by omega) (by omega) y x u rfl
              simp (decide := true) only [show nI 13 = (13 : Int32) from rfl, Option.bind_some, reduceIte, if_true, if_false, Bool.false_eq_true, ck_tt, q1, nI_pred, ms_a hm (rfl : nI (u.length + 1) = nI (u.length + 1)) (by omega), ms_a hm (rfl : nI u.length = nI u.length) (by omega), p1, p2]
              have hb : bin 13 x y = x &&& y := rfl
              rw [← and_2 x y (hyx (by omega)).2 (hyx (by omega)).1] at hb
              by_cases e : x + y = (2 : Int32)
              · rw [if_pos e] at hb
                simp only [e, Option.bind_some, reduceIte, if_true, if_false, Bool.false_eq_true, ck_tt, i32_10, ms_t hm (rfl : nI u.length = nI u.length) (show u.length < 400 by omega)]
                exact fin (1 :: u) _ (hs9.trans (by rw [hb])) (p3.push _) (fun c hc => u2_o _ _ _ _ hc) _ rfl
              · rw [if_neg e] at hb
                simp only [e, Option.bind_some, reduceIte, if_true, if_false, Bool.false_eq_true, ck_tt, i32_00, ms_t hm (rfl : nI u.length = nI u.length) (show u.length < 400 by omega)]
                exact fin (0 :: u) _ (hs9.trans (by rw [hb])) (p3.push _) (fun c hc => u2_o _ _ _ _ hc) _ rfl
            · obtain ⟨y, x, u, rfl, p1, p2, p3, hul, hs9, hyx⟩ := bins 14 rfl (by omega) _ _ _ h2 (fun _ => ⟨rfl, rfl⟩)
              obtain ⟨q1, q2⟩ := c9 14 rfl (by omega) (by omega) y x u rfl
              simp (decide := true) only [show nI 14 = (14 : Int32) from rfl, Option.bind_some, reduceIte, if_true, if_false, Bool.false_eq_true, ck_tt, q1, nI_pred, ms_a hm (rfl : nI (u.length + 1) = nI (u.length + 1)) (by omega), ms_a hm (rfl : nI u.length = nI u.length) (by omega), p1, p2]
              have hb : bin 14 x y = x ||| y := rfl
              rw [← or_2 x y (hyx (by omega)).2 (hyx (by omega)).1] at hb
              by_cases e : x + y ≤ 0
              · rw [if_pos e] at hb
                simp only [e, Option.bind_some, reduceIte, if_true, if_false, Bool.false_eq_true, ck_tt, i32_00, ms_t hm (rfl : nI u.length = nI u.length) (show u.length < 400 by omega)]
                exact fin (0 :: u) _ (hs9.trans (by rw [hb])) (p3.push _) (fun c hc => u2_o _ _ _ _ hc) _ rfl
              · rw [if_neg e] at hb
                simp only [e, Option.bind_some, reduceIte, if_true, if_false, Bool.false_eq_true, ck_tt, i32_10, ms_t hm (rfl : nI u.length = nI u.length) (show u.length < 400 by omega)]
                exact fin (1 :: u) _ (hs9.trans (by rw [hb])) (p3.push _) (fun c hc => u2_o _ _ _ _ hc) _ rfl
          · have hx14 : c ≤ 14 := hx14
            omega
          · have hx14 : c ≤ 14 := hx14
            omega
        · rw [if_neg hτ'] at ht2; cases ht2
    · rintro s ⟨rest, τ, stk, J1, rfl, hdr, hty, hvt, hτ, hfo, hst, hfr⟩
      have hr : rest = [] := by rw [← hdr, List.drop_length]
      subst hr
      have hfo : stk = st.foldl (stp (factV a I v q)) [] := hfo
      simp only [Option.bind_some, reduceIte, if_true, if_false, Bool.false_eq_true, ck_tt, v_qS, mo_k hm, mw_f hm, mo_r1 hm, mw_gates hm, mw_walkers hm, mw_a hm (show ((365 : Int32) + (3 : Int32) * nI n) + (2 : Int32) = nI (365 + 3 * n + 2) from ix_l 365 n 2) (by omega), e2, cm_leT (Nat.le_refl (o + st.length)) (nat_31 (n := o + st.length) (by omega))]
      rw [hfo] at hst ⊢
      refine E1.ok ⟨J1, rfl, hfr, hst, ?_⟩
      rw [← hfo, hvt.len]; exact hτ
  · rintro _ ⟨J', rfl, hfr, hst, h60⟩
    have hvf : VT τf (st.foldl (stp (factV a I v q)) []) := fold_ty h7 h14 htf trivial
    unfold hld
    cases e : st.foldl (stp (factV a I v q)) [] with
    | nil =>
      simp (decide := true) only [Option.bind_some, reduceIte, if_true, if_false, Bool.false_eq_true, ck_tt, show nI ([] : List Int32).length = (0 : Int32) from rfl]
      exact E1.ok ⟨J', rfl, hfr⟩
    | cons x r =>
      rw [e] at hvf h60 hst
      have hr : r = [] := by
        rcases ht with rfl | ht
        · cases e
        · rw [ht] at htf
          cases htf
          exact hvf.2.emp
      subst hr
      have hx := hst.pop.1
      have hx : J' 1535 0 = x := hx
      simp (decide := true) only [Option.bind_some, reduceIte, if_true, if_false, Bool.false_eq_true, ck_tt, r16, ms_a hm (show (0 : Int32) = nI 0 from rfl) (show 0 < 400 by omega), hx, show nI [x].length = (1 : Int32) from rfl]
      by_cases e1 : x = 1
      · simp only [e1, Option.bind_some, reduceIte, if_true, if_false, Bool.false_eq_true, ck_tt, decide_true]
        exact E1.ok ⟨J', rfl, hfr⟩
      · simp only [e1, Option.bind_some, reduceIte, if_true, if_false, Bool.false_eq_true, ck_tt, decide_false]
        exact E1.ok ⟨J', rfl, hfr⟩
end LAW5
