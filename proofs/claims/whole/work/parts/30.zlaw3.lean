/-! the one side's machine over a law, whole -/
def bin (c : Nat) (x y : Int32) : Int32 := match c with
  | 9 => x + y
  | 10 => if y ≤ x then 0 else 1
  | 11 => if x ≤ y then 0 else 1
  | 13 => x &&& y
  | _ => x ||| y
theorem stp_bin {fv : Nat → Int32 → Int32} {x y z : Int32} {r : List Int32} {c : Nat} (hc : c = 9 ∨ c = 10 ∨ c = 11 ∨ c = 13 ∨ c = 14) : stp fv (y :: x :: r) (c, z) = bin c x y :: r := by
  rcases hc with rfl | rfl | rfl | rfl | rfl <;> rfl
theorem c_joined {x y : Int32} {c : Nat} {M : Mem} (hc : c = 9 ∨ c = 10 ∨ c = 11 ∨ c = 13 ∨ c = 14) : F_Law_joined (tkOf c) x y M = some (bin c x y) := by
  unfold F_Law_joined
  rw [tsw_b (by omega)]
  rcases hc with rfl | rfl | rfl | rfl | rfl
  · rfl
  · simp (decide := true) only [show swOf 10 = 25 from rfl, Option.bind_some, reduceIte, if_true, if_false, Bool.false_eq_true, ck_tt]
    by_cases e : y ≤ x
    · simp only [e, Option.bind_some, reduceIte, if_true, if_false, Bool.false_eq_true, ck_tt]; show _ = some (if y ≤ x then (0 : Int32) else 1); rw [if_pos e]
    · simp only [e, Option.bind_some, reduceIte, if_true, if_false, Bool.false_eq_true, ck_tt]; show _ = some (if y ≤ x then (0 : Int32) else 1); rw [if_neg e]
  · simp (decide := true) only [show swOf 11 = 26 from rfl, Option.bind_some, reduceIte, if_true, if_false, Bool.false_eq_true, ck_tt]
    by_cases e : x ≤ y
    · simp only [e, Option.bind_some, reduceIte, if_true, if_false, Bool.false_eq_true, ck_tt]; show _ = some (if x ≤ y then (0 : Int32) else 1); rw [if_pos e]
    · simp only [e, Option.bind_some, reduceIte, if_true, if_false, Bool.false_eq_true, ck_tt]; show _ = some (if x ≤ y then (0 : Int32) else 1); rw [if_neg e]
  · rfl
  · rfl
theorem drop_at {α : Type} {l r : List α} {x : α} {i : Nat} (h : l.drop i = x :: r) : l[i]? = some x ∧ l.drop (i + 1) = r := by
  constructor
  · have h1 : (l.drop i)[0]? = l[i]? := by rw [List.getElem?_drop]; simp
    rw [← h1, h]; rfl
  · rw [← List.drop_drop, h]
    rfl
theorem sw_low : ∀ c, c < 8 → ∀ d, d < 10 → ¬ swOf c = nI (19 + d) := by decide +kernel
section LAW3
variable {a g w k v q p wt : Nat} {I I' I2 : IM} {W W' : Nat → Int32} {N K : NM} {J : IM} {M M' : Mem}
theorem c_bin {l : List (Nat × Int32)} {i : Nat} {x y z : Int32} {r : List Int32} {c : Nat} {β : Type} {F : Mem → Option β} {Q : β → Prop} (hc : c = 9 ∨ c = 10 ∨ c = 11 ∨ c = 13 ∨ c = 14) (hp : LawP N I p l) (hx : l[i]? = some (c, z)) (hs : STK p (kR N p 3) I (y :: x :: r)) (hl : r.length < 60)
    (k : ∀ I', STK p (kR N p 3) I' (bin c x y :: r) → FLw p (kR N p 3) I I' → E1 (F (I', N)) Q) :
    E1 ((F_Law_pop p (I, N)).bind fun v38 => (fR v38.2 p 12 1).bind fun v39 => (aR v38.2 v39 4 (nI i)).bind fun v40 => (F_Law_pop p v38.2).bind fun v41 => (F_Law_joined v40 v41.1 v38.1 v41.2).bind fun v42 => (ck (qS v41.2 p = 12)).bind fun h44 => (F_Law_push p v42 v41.2).bind F) Q := by
  have hk := hp.1.1
  have hw1 := hp.2.2.2.1.1
  have hw2 := hp.2.2.2.1.2
  have hlen : i < l.length := (List.getElem?_eq_some_iff.mp hx).1
  have h900 := hp.2.2.2.2.1
  refine E1.bind (c_pop hk rfl hw1 hw2 hs (by simp; omega)) ?_
  rintro u ⟨I1, rfl, s1, f1⟩
  simp only [Option.bind_some, reduceIte, if_true, if_false, Bool.false_eq_true, ck_tt, v_fR hk, v_aR hp.2.1.1 hp.2.1.2 (rfl : nI i = nI i) hlen (by omega), (hp.2.2.2.2.2 i _ hx).2.1]
  refine E1.bind (c_pop hk rfl hw1 hw2 s1 (by omega)) ?_
  rintro u ⟨I2, rfl, s2, f2⟩
  simp only [Option.bind_some, reduceIte, if_true, if_false, Bool.false_eq_true, ck_tt, c_joined hc, v_qS, hk]
  refine E1.bind (c_push hk rfl hw1 hw2 s2 (by omega) (bin c x y)) ?_
  rintro M ⟨I3, rfl, s3, f3⟩
  exact k I3 s3 ((f1.trans f2).trans f3)
set_option maxHeartbeats 1000000 in
theorem c_burden {l : List (Nat × Int32)} (hn : WN N a) (hv : v < 8) (hq : q < 12) (hp : LawP N I p l) (hd : ∀ c, a ≤ c → c < a + 27 → c ≠ p ∧ c ≠ kR N p 3) (ht : tyL 60 [] l = some []) :
    E1 (F_Law_burden p a (nI v) (nI q) (I, N)) (fun u => ∃ I', u = ((if (l.foldl (cst (factV a I v q)) (0, 0, [])).2.1 = 0 then (l.foldl (cst (factV a I v q)) (0, 0, [])).1 else -1), (I', N)) ∧ FLw p (kR N p 3) I I') := by
  have hk := hp.1.1
  have hw1 := hp.2.2.2.1.1
  have hw2 := hp.2.2.2.1.2
  have h900 := hp.2.2.2.2.1
  have hpw : p ≠ kR N p 3 := fun e => by rw [← e, hk] at hw1; cases hw1
  have h7 : ∀ y, factV a I v q 7 y = 0 ∨ factV a I v q 7 y = 1 := fun y => fact7
  unfold F_Law_burden
  simp only [v_sI hk, Option.bind_some, reduceIte, if_true, if_false, Bool.false_eq_true, ck_tt]
  refine E1.bind (P := fun u => ∃ I', u = ((l.foldl (cst (factV a I v q)) (0, 0, [])).1, (l.foldl (cst (factV a I v q)) (0, 0, [])).2.1, (I', N)) ∧ FLw p (kR N p 3) I I') ?_ ?_
  · refine lq1 (fun i s => ∃ (rest : List (Nat × Int32)) (τ : List Bool) (st : Int32 × Int32 × List Int32) (I1 : IM), s = (st.1, st.2.1, nI i, (I1, N)) ∧ l.drop i = rest ∧ tyL 60 τ rest = some [] ∧ VT τ st.2.2 ∧ τ.length ≤ 60 ∧ rest.foldl (cst (factV a I v q)) st = l.foldl (cst (factV a I v q)) (0, 0, []) ∧ STK p (kR N p 3) I1 st.2.2 ∧ FLw p (kR N p 3) I I1) _ l.length (lim_lt (by omega)) (Nat.zero_le _) ⟨l, [], (0, 0, []), u2 I p 4 0, rfl, rfl, ht, trivial, Nat.zero_le _, rfl, ⟨by rw [u2_s]; rfl, fun k hk => absurd hk (Nat.not_lt_zero _)⟩, fun c j h1 h2 => u2_n _ _ _ _ h2⟩ ?_ ?_
    · rintro i s hi ⟨rest, τ, ⟨su, ne, stk⟩, I1, rfl, hdr, hty, hvt, hτ, hfo, hst, hfl⟩
      cases rest with
      | nil =>
        have := congrArg List.length hdr
        simp at this
        omega
      | cons x r =>
        obtain ⟨hx, hdr2⟩ := drop_at hdr
        have hp1 : LawP N I1 p l := hp.fl hfl
        obtain ⟨x1, x2, x3⟩ := hp1.2.2.2.2.2 i x hx
        have hlen := hvt.len
        have hlen : stk.length = τ.length := hlen
        have hty2 : (tyS τ x.1).bind (fun s' => if s'.length ≤ 60 then tyL 60 s' r else none) = some [] := hty
        obtain ⟨τ', ht1, ht2⟩ := bd_s hty2
        by_cases hτ' : τ'.length ≤ 60
        · rw [if_pos hτ'] at ht2
          simp only [Option.bind_some, reduceIte, if_true, if_false, Bool.false_eq_true, ck_tt, v_fR hk, v_aN (show 1 ≤ kS N (kR N p 1) by rw [hp.2.1.1]; omega) (show kS N (kR N p 1) ≤ 6 by rw [hp.2.1.1]; omega), hp.2.1.2, cm_leF hi (nat_31 (n := l.length) (by omega)), v_aR hp.2.1.1 hp.2.1.2 (rfl : nI i = nI i) hi (by omega), x2, tsw_b x1, v_aI hp.2.2.1.1 hp.2.2.1.2 (rfl : nI i = nI i) hi (by omega), x3, v_qS, wa_k hn, hk]
          have fin : ∀ (st' : Int32 × Int32 × List Int32) (I' : IM), cst (factV a I v q) (su, ne, stk) x = st' → STK p (kR N p 3) I' st'.2.2 → FLw p (kR N p 3) I1 I' → VT τ' st'.2.2 → E1 (some (Sum.inl (st'.1, st'.2.1, nI i + 1, (I', N))) : Option ((Int32 × Int32 × Int32 × Mem) ⊕ (Int32 × Int32 × Mem))) (Sum.elim (fun s => ∃ (rest : List (Nat × Int32)) (τ : List Bool) (st : Int32 × Int32 × List Int32) (I1 : IM), s = (st.1, st.2.1, nI (i + 1), (I1, N)) ∧ l.drop (i + 1) = rest ∧ tyL 60 τ rest = some [] ∧ VT τ st.2.2 ∧ τ.length ≤ 60 ∧ rest.foldl (cst (factV a I v q)) st = l.foldl (cst (factV a I v q)) (0, 0, []) ∧ STK p (kR N p 3) I1 st.2.2 ∧ FLw p (kR N p 3) I I1) (fun u => ∃ I', u = ((l.foldl (cst (factV a I v q)) (0, 0, [])).1, (l.foldl (cst (factV a I v q)) (0, 0, [])).2.1, (I', N)) ∧ FLw p (kR N p 3) I I')) := by
            intro st' I' e1 e2 e3 e4
            refine E1.ok ⟨r, τ', st', I', ?_, hdr2, ht2, e4, hτ', ?_, e2, hfl.trans e3⟩
            · rw [nI_1]
            · rw [← hfo, ← e1]; rfl
          have bins : ∀ (c : Nat) (z : Int32), x = (c, z) → (c = 9 ∨ c = 10 ∨ c = 11 ∨ c = 13 ∨ c = 14) → ∀ b b' r', τ = b :: b' :: r' → E1 ((F_Law_pop p (I1, N)).bind fun v38 => (fR v38.2 p 12 1).bind fun v39 => (aR v38.2 v39 4 (nI i)).bind fun v40 => (F_Law_pop p v38.2).bind fun v41 => (F_Law_joined v40 v41.1 v38.1 v41.2).bind fun v42 => (ck (qS v41.2 p = 12)).bind fun h44 => (F_Law_push p v42 v41.2).bind fun v43 => (some (Sum.inl (su, ne, nI i + 1, v43)) : Option ((Int32 × Int32 × Int32 × Mem) ⊕ (Int32 × Int32 × Mem)))) (Sum.elim (fun s => ∃ (rest : List (Nat × Int32)) (τ : List Bool) (st : Int32 × Int32 × List Int32) (I1 : IM), s = (st.1, st.2.1, nI (i + 1), (I1, N)) ∧ l.drop (i + 1) = rest ∧ tyL 60 τ rest = some [] ∧ VT τ st.2.2 ∧ τ.length ≤ 60 ∧ rest.foldl (cst (factV a I v q)) st = l.foldl (cst (factV a I v q)) (0, 0, []) ∧ STK p (kR N p 3) I1 st.2.2 ∧ FLw p (kR N p 3) I I1) (fun u => ∃ I', u = ((l.foldl (cst (factV a I v q)) (0, 0, [])).1, (l.foldl (cst (factV a I v q)) (0, 0, [])).2.1, (I', N)) ∧ FLw p (kR N p 3) I I')) := by
            rintro c z rfl hc b b' r' rfl
            obtain ⟨y, x, u, e0, -, -, hu⟩ := hvt.two
            have e0 : stk = y :: x :: u := e0
            subst e0
            have hvt' := VT.step (x := (c, z)) h7 (by show c ≤ 14; omega) ht1 hvt
            have hul : u.length < 60 := by simp at hlen hτ; omega
            refine c_bin hc hp1 hx hst hul fun I' s' f' => ?_
            refine fin (su, ne, bin c x y :: u) I' ?_ s' f' ?_
            · rw [cst_low (by show c ≤ 14; omega), stp_bin hc]
            · rw [stp_bin hc] at hvt'; exact hvt'
          obtain ⟨c, z⟩ := x
          rcases tyS_cases ht1 with ⟨h1, h2⟩ | ⟨r', h1, h2, h3⟩ | ⟨r', h1, h2, h3⟩ | ⟨r', h1, h2, h3⟩ | ⟨r', h1, h2, h3⟩ | ⟨h1, h2, h3⟩ | ⟨h1, h2, h3⟩
          · have h1 : c ≤ 8 := h1
            have hvt' := VT.step (x := (c, z)) h7 (by show c ≤ 14; omega) ht1 hvt
            rw [stp_fact h1] at hvt'
            have hsl : stk.length < 64 := by omega
            by_cases e8 : c = 8
            · subst e8
              simp (decide := true) only [show swOf 8 = 21 from rfl, Option.bind_some, reduceIte, if_true, if_false, Bool.false_eq_true, ck_tt]
              refine E1.bind (c_push hk rfl hw1 hw2 hst hsl z) ?_
              rintro M ⟨I', rfl, s', f'⟩
              exact fin (su, ne, z :: stk) I' rfl s' f' hvt'
            · have hc7 : c ≤ 7 := by omega
              have hrow : ∀ c', a ≤ c' → c' < a + 27 → I1 c' = I c' := fun c' h1 h2 => funext fun j => hfl _ _ (hd c' h1 h2).2 (fun e => (hd c' h1 h2).1 e.1)
              have hfc : factV a I1 v q c z = factV a I v q c z := factV_cong (hrow _ (by omega) (by omega)) (hrow _ (by omega) (by omega)) (congrFun (hrow _ (by omega) (by omega)) 16) (hrow _ (by omega) (by omega)) (hrow _ (by omega) (by omega)) (hrow _ (by omega) (by omega))
              rw [if_neg (show ¬ swOf c = 19 from sw_low c (by omega) 0 (by omega)), if_neg (show ¬ swOf c = 20 from sw_low c (by omega) 1 (by omega)), if_neg (show ¬ swOf c = 21 from sw_low c (by omega) 2 (by omega)), if_neg (show ¬ swOf c = 22 from sw_low c (by omega) 3 (by omega)), if_neg (show ¬ swOf c = 23 from sw_low c (by omega) 4 (by omega)), if_neg (show ¬ swOf c = 24 from sw_low c (by omega) 5 (by omega)), if_neg (show ¬ swOf c = 25 from sw_low c (by omega) 6 (by omega)), if_neg (show ¬ swOf c = 26 from sw_low c (by omega) 7 (by omega)), if_neg (show ¬ swOf c = 27 from sw_low c (by omega) 8 (by omega)), if_neg (show ¬ swOf c = 28 from sw_low c (by omega) 9 (by omega))]
              simp only [c_fact hn hv hq hc7 z, hfc, Option.bind_some, reduceIte, if_true, if_false, Bool.false_eq_true, ck_tt]
              refine E1.bind (c_push hk rfl hw1 hw2 hst hsl _) ?_
              rintro M ⟨I', rfl, s', f'⟩
              exact fin (su, ne, factV a I v q c z :: stk) I' (by rw [cst_low (by show c ≤ 14; omega), stp_fact (by show c ≤ 8; omega)]) s' f' hvt'
          · have h1 : c = 9 := h1
            subst h1
            simp (decide := true) only [show swOf 9 = 24 from rfl, Option.bind_some, reduceIte, if_true, if_false, Bool.false_eq_true, ck_tt]
            exact bins 9 z rfl (by omega) _ _ _ h2
          · have h1 : c = 10 ∨ c = 11 := h1
            rcases h1 with rfl | rfl
            · simp (decide := true) only [show swOf 10 = 25 from rfl, Option.bind_some, reduceIte, if_true, if_false, Bool.false_eq_true, ck_tt]
              exact bins 10 z rfl (by omega) _ _ _ h2
            · simp (decide := true) only [show swOf 11 = 26 from rfl, Option.bind_some, reduceIte, if_true, if_false, Bool.false_eq_true, ck_tt]
              exact bins 11 z rfl (by omega) _ _ _ h2
          · have h1 : c = 12 := h1
            subst h1
            have hvt' := VT.step (x := (12, z)) h7 (by show 12 ≤ 14; omega) ht1 hvt
            subst h2
            obtain ⟨y, u, e0, -, hu⟩ := hvt.one
            have e0 : stk = y :: u := e0
            subst e0
            simp (decide := true) only [show swOf 12 = 23 from rfl, Option.bind_some, reduceIte, if_true, if_false, Bool.false_eq_true, ck_tt]
            refine E1.bind (c_pop hk rfl hw1 hw2 hst (by simp at hlen hτ; omega)) ?_
            rintro _ ⟨I', rfl, s', f'⟩
            simp only [Option.bind_some, reduceIte, if_true, if_false, Bool.false_eq_true, ck_tt, v_qS, hk]
            refine E1.bind (c_push hk rfl hw1 hw2 s' (by simp at hlen hτ; omega) _) ?_
            rintro M ⟨I'', rfl, s'', f''⟩
            exact fin (su, ne, (1 - y) :: u) I'' rfl s'' (f'.trans f'') hvt'
          · have h1 : c = 13 ∨ c = 14 := h1
            rcases h1 with rfl | rfl
            · simp (decide := true) only [show swOf 13 = 27 from rfl, Option.bind_some, reduceIte, if_true, if_false, Bool.false_eq_true, ck_tt]
              exact bins 13 z rfl (by omega) _ _ _ h2
            · simp (decide := true) only [show swOf 14 = 28 from rfl, Option.bind_some, reduceIte, if_true, if_false, Bool.false_eq_true, ck_tt]
              exact bins 14 z rfl (by omega) _ _ _ h2
          · have h1 : c = 15 ∨ c = 16 := h1
            subst h2
            obtain ⟨y, u, e0, hy, hu⟩ := hvt.one
            have e0 : stk = y :: u := e0
            subst e0
            cases hu.emp
            subst h3
            rcases h1 with rfl | rfl
            · simp (decide := true) only [show swOf 15 = 19 from rfl, Option.bind_some, reduceIte, if_true, if_false, Bool.false_eq_true, ck_tt]
              refine E1.bind (c_pop hk rfl hw1 hw2 hst (by simp)) ?_
              rintro _ ⟨I', rfl, s', f'⟩
              have x3' : I' (kR N p 2) i = z := ((hp1.fl f').2.2.2.2.2 i _ hx).2.2
              simp only [Option.bind_some, reduceIte, if_true, if_false, Bool.false_eq_true, ck_tt, v_fR hk, v_aI hp.2.2.1.1 hp.2.2.1.2 (rfl : nI i = nI i) hi (by omega), x3']
              by_cases hy1 : y = 1
              · simp only [hy1, Option.bind_some, reduceIte, if_true, if_false, Bool.false_eq_true, ck_tt]
                exact fin (su + z, ne, []) I' (by show (su + (if y = 1 then z else 0), ne, []) = _; rw [if_pos hy1]) s' f' trivial
              · simp only [hy1, Option.bind_some, reduceIte, if_true, if_false, Bool.false_eq_true, ck_tt]
                exact fin (su + 0, ne, []) I' (by show (su + (if y = 1 then z else 0), ne, []) = _; rw [if_neg hy1]) s' f' trivial
            · simp (decide := true) only [show swOf 16 = 20 from rfl, Option.bind_some, reduceIte, if_true, if_false, Bool.false_eq_true, ck_tt]
              refine E1.bind (c_pop hk rfl hw1 hw2 hst (by simp)) ?_
              rintro _ ⟨I', rfl, s', f'⟩
              by_cases hy1 : y = 1
              · simp only [hy1, Option.bind_some, reduceIte, if_true, if_false, Bool.false_eq_true, ck_tt]
                exact fin (su, 1, []) I' (by show (su, (if y = 1 then (1 : Int32) else if ne = 0 then 0 else 1), []) = _; rw [if_pos hy1]) s' f' trivial
              · by_cases hn0 : ne = 0
                · simp only [hy1, hn0, Option.bind_some, reduceIte, if_true, if_false, Bool.false_eq_true, ck_tt]
                  exact fin (su, 0, []) I' (by show (su, (if y = 1 then (1 : Int32) else if ne = 0 then 0 else 1), []) = _; rw [if_neg hy1, if_pos hn0]) s' f' trivial
                · simp only [hy1, hn0, Option.bind_some, reduceIte, if_true, if_false, Bool.false_eq_true, ck_tt]
                  exact fin (su, 1, []) I' (by show (su, (if y = 1 then (1 : Int32) else if ne = 0 then 0 else 1), []) = _; rw [if_neg hy1, if_neg hn0]) s' f' trivial
          · have h1 : c = 17 := h1
            subst h1
            subst h2
            cases hvt.emp
            subst h3
            simp (decide := true) only [show swOf 17 = 22 from rfl, Option.bind_some, reduceIte, if_true, if_false, Bool.false_eq_true, ck_tt]
            refine E1.bind (c_push hk rfl hw1 hw2 hst (by simp) _) ?_
            rintro M ⟨I', rfl, s', f'⟩
            exact fin (su, ne, [1]) I' rfl s' f' ⟨fun _ => Or.inr rfl, trivial⟩
        · rw [if_neg hτ'] at ht2; cases ht2
    · rintro s ⟨rest, τ, ⟨su, ne, stk⟩, I1, rfl, hdr, hty, hvt, hτ, hfo, hst, hfl⟩
      have hr : rest = [] := by rw [← hdr, List.drop_length]
      subst hr
      simp only [Option.bind_some, reduceIte, if_true, if_false, Bool.false_eq_true, ck_tt, v_fR hk, v_aN (show 1 ≤ kS N (kR N p 1) by rw [hp.2.1.1]; omega) (show kS N (kR N p 1) ≤ 6 by rw [hp.2.1.1]; omega), hp.2.1.2, cm_leT (Nat.le_refl l.length) (nat_31 (n := l.length) (by omega))]
      refine E1.ok ⟨I1, ?_, hfl⟩
      rw [← hfo]; rfl
  · rintro _ ⟨I', rfl, hfl⟩
    by_cases e : (l.foldl (cst (factV a I v q)) (0, 0, [])).2.1 = 0
    · simp only [e, Option.bind_some, reduceIte, if_true, if_false, Bool.false_eq_true, ck_tt]
      exact E1.ok ⟨I', rfl, hfl⟩
    · simp only [e, Option.bind_some, reduceIte, if_true, if_false, Bool.false_eq_true, ck_tt]
      exact E1.ok ⟨I', rfl, hfl⟩
end LAW3
