/-! chains, further: the one side weighs all sets, the other too; both answer alike -/
def mnO : Option Nat → Option Nat → Option Nat
  | none, y => y
  | some x, none => some x
  | some x, some y => some (if x < y then x else y)
theorem fgb_step {f : Nat → Option Nat} (q : Nat) : (fgV f (q + 1)).bind f = mnO (f q) ((fgV f q).bind f) := by
  have hs : fgV f (q + 1) = match f q with | none => fgV f q | some x => match (fgV f q).bind f with | none => some q | some y => if x < y then some q else fgV f q := rfl
  rw [hs]
  cases hq : f q with
  | none => rfl
  | some x =>
    cases hb : (fgV f q).bind f with
    | none => exact hq
    | some y =>
      show (if x < y then some q else fgV f q).bind f = some (if x < y then x else y)
      by_cases z : x < y
      · rw [if_pos z, if_pos z]; exact hq
      · rw [if_neg z, if_neg z]; exact hb
theorem mMin_cl {x y : Option Nat} (hx : ∀ k, x = some k → k < 100) (hy : ∀ k, y = some k → k < 100) : mMin (cl x) (cl y) = cl (mnO y x) := by
  unfold mMin
  cases x with
  | none =>
    cases y with
    | none => rfl
    | some k =>
      have := hy k rfl
      show (if nI k < (100 : Int32) then nI k else 100) = nI k
      rw [if_pos (show nI k < (100 : Int32) from nI_lt (a := k) (b := 100) (by omega) (by omega))]
  | some m =>
    have hm := hx m rfl
    cases y with
    | none =>
      show (if (100 : Int32) < nI m then (100 : Int32) else nI m) = nI m
      rw [if_neg (show ¬ (100 : Int32) < nI m from nI_nlt (a := 100) (b := m) (by omega) (by omega))]
    | some k =>
      have hk := hy k rfl
      show (if nI k < nI m then nI k else nI m) = nI (if k < m then k else m)
      by_cases z : k < m
      · rw [if_pos z, if_pos (nI_lt z (by omega))]
      · rw [if_neg z, if_neg (nI_nlt (by omega) (by omega))]
theorem pc_pos {i : Nat} (h : 1 ≤ i) (hi : i < 64) : 1 ≤ pcN i := by
  have key : ∀ i, i < 64 → 1 ≤ i → 1 ≤ pcN i := by decide +kernel
  exact key i hi h
section CHB
variable {a c g w k v q p n s : Nat} {I I' I2 : IM} {W W' : Nat → Int32} {N K : NM} {J : IM} {M M' : Mem}
theorem CRl.rows (h : CRl c I W g n) (f : ∀ r, r ≠ c + 9 → I' r = I r) : CRl c I' W g n := by
  obtain ⟨h1, h2, h3, h4⟩ := h
  refine ⟨h1, by rw [f c (by omega)]; exact h2, h3, fun i hi => ?_⟩
  rw [f (c + 8) (by omega), f (c + 2 + i) (by omega)]
  exact h4 i hi
theorem lt_rows (f : ∀ r, r ≠ c + 9 → I' r = I r) : ltV I' c = ltV I c := funext fun o => funext fun q => by
  unfold ltV
  by_cases ho : o < 6
  · rw [if_pos ho, if_pos ho, f _ (by omega)]
  · rw [if_neg ho, if_neg ho]
theorem c_weigh (h : CRl c I W g n) (hg : g ≤ 12) (hn : CNs N c) : E1 (F_Chains_weighAllSets c (I, N)) (fun M => ∃ I', M = (I', N) ∧ (∀ r, r ≠ c + 9 → I' r = I r) ∧ ∀ s, s < 2 ^ n → I' (c + 9) s = cl (vlV (ltV I c) n (gaV I c n) s)) := by
  have h6 := h.1
  have h64 : 2 ^ n ≤ 64 := Nat.pow_le_pow_right (n := 2) (by omega) h6
  have hpos : 0 < 2 ^ n := Nat.pow_pos (by omega)
  have hG := (ga_spec h hg n (Nat.le_refl n)).1
  have hvb : ∀ x k, vlV (ltV I c) n (gaV I c n) x = some k → k ≤ x := vl_bd _ _ _
  unfold F_Chains_weighAllSets
  simp only [Option.bind_some, reduceIte, if_true, if_false, Bool.false_eq_true, ck_tt, v_qS, hn.1.1, c_gates h hg hn, ch_r2 hn, show tI (I, N) (c + 9) (0 : Int32) 0 = some (u2 I (c + 9) 0 0, N) from ch_ft (i := 0) hn (by omega)]
  refine lq1 (fun i z => 1 ≤ i ∧ ∃ I', z = (nI i, (I', N)) ∧ (∀ r, r ≠ c + 9 → I' r = I r) ∧ ∀ s, s < i → I' (c + 9) s = cl (vlV (ltV I c) n (gaV I c n) s)) _ (2 ^ n) (lim_lt (by omega)) (i := 1) hpos ⟨Nat.le_refl 1, _, rfl, fun r hr => u2_o _ _ _ _ hr, fun s hs => (by
    have : s = 0 := by omega
    subst this
    rw [u2_s, vl_eq, if_pos (by decide)]; rfl)⟩ ?_ ?_
  · rintro i z hi ⟨hi1, I1, rfl, hfr, hva⟩
    have h1 := h.rows hfr
    have hpc := pc_pos hi1 (by omega)
    have hpl := pcN_le i
    have hlt : ltV I1 c = ltV I c := lt_rows hfr
    simp only [Option.bind_some, reduceIte, if_true, if_false, Bool.false_eq_true, ck_tt, v_fI hn.1.1, hfr c (by omega), h.2.1, shl_nI n (by omega), cm_leF hi (nat_31 (n := 2 ^ n) (by omega)), jbc, pc_nI i (by omega)]
    refine E1.bind (P := fun b => b = if pcN i < 2 then 0 else 100) ?_ ?_
    · by_cases e : pcN i = 1
      · rw [e]; exact E1.ok rfl
      · rw [if_neg (show ¬ nI (pcN i) = (1 : Int32) from fun z => e ((nI_eq (a := pcN i) (b := 1) (by omega) (by omega)).mp z)), if_neg (by omega)]
        exact E1.ok rfl
    · rintro _ rfl
      have hf : ∀ q, q < gaV I c n → F_Chains_questionsFrom c (nI i) (nI q) (I1, N) = some (cl (qvV (vlV (ltV I c) n (gaV I c n)) (ltV I c) n i q)) := fun q hq => by
        rw [c_from h1 hg hn (by omega) hi1 hi (v := vlV (ltV I c) n (gaV I c n)) hva hvb, hlt]
      refine E1.bind (P := fun b => b = cl (vlV (ltV I c) n (gaV I c n) i)) ?_ ?_
      · rw [vl_eq]
        by_cases e : pcN i < 2
        · rw [if_pos e, if_pos e]
          refine lq1 (fun _ z => z = ((0 : Int32), (0 : Int32))) _ 0 (lim_lt (by omega)) (Nat.le_refl 0) rfl (fun i s hi => absurd hi (Nat.not_lt_zero _)) ?_
          rintro z rfl
          by_cases hg0 : nI (gaV I c n) ≤ 0
          · simp (decide := true) only [hg0, Option.bind_some, reduceIte, if_true, if_false, Bool.false_eq_true, ck_tt]
            exact E1.ok rfl
          · simp (decide := true) only [hg0, Option.bind_some, reduceIte, if_true, if_false, Bool.false_eq_true, ck_tt]
            exact E1.ok rfl
        · rw [if_neg e, if_neg e]
          generalize hF : qvV (vlV (ltV I c) n (gaV I c n)) (ltV I c) n i = f at hf
          have fb : ∀ q k, f q = some k → 1 ≤ k ∧ k < 100 := fun q k hk => by
            rw [← hF] at hk
            have := qv_bd hi1 hk
            omega
          have fb2 : ∀ q k, (fgV f q).bind f = some k → 1 ≤ k ∧ k < 100 := fun q k hk => by
            cases hz : fgV f q with
            | none => rw [hz] at hk; cases hk
            | some b => rw [hz] at hk; exact fb b k hk
          refine lq1 (fun q z => z = (cl ((fgV f q).bind f), nI q)) _ (gaV I c n) (lim_lt (by omega)) (Nat.zero_le _) rfl ?_ ?_
          · rintro q z hq rfl
            simp only [Option.bind_some, reduceIte, if_true, if_false, Bool.false_eq_true, ck_tt, cm_leF hq (nat_31 (n := gaV I c n) (by omega))]
            by_cases h1' : cl ((fgV f q).bind f) ≤ 1
            · simp only [h1', Option.bind_some, reduceIte, if_true, if_false, Bool.false_eq_true, ck_tt]
              refine E1.ok ?_
              show cl ((fgV f q).bind f) = cl ((fgV f (gaV I c n)).bind f)
              have ex : (fgV f q).bind f = some 1 := by
                cases hz : (fgV f q).bind f with
                | none => rw [hz] at h1'; exact absurd h1' (by decide)
                | some k =>
                  rw [hz] at h1'
                  have := fb2 q k hz
                  have h1' : nI k ≤ nI 1 := h1'
                  have := (nI_leI (by omega) (by omega)).mp h1'
                  rw [show k = 1 by omega]
              rw [ex]
              rcases fg_spec (f := f) q with ⟨e1, -⟩ | ⟨b, x, e1, hb, hfx, -⟩
              · rw [e1] at ex; cases ex
              · rw [e1] at ex
                have ex : f b = some 1 := ex
                rcases fg_spec (f := f) (gaV I c n) with ⟨e2, h2⟩ | ⟨b', x', e2, hb', hfx', h2⟩
                · rw [h2 b (by omega)] at ex; cases ex
                · rw [e2]
                  show cl (some 1) = cl (f b')
                  rw [hfx']
                  have := (h2 b 1 (by omega) ex).1
                  have := (fb b' x' hfx').1
                  rw [show x' = 1 by omega]
            · simp only [h1', Option.bind_some, reduceIte, if_true, if_false, Bool.false_eq_true, ck_tt, hf q hq]
              refine E1.ok (Prod.ext ?_ (nI_1 q))
              show mMin _ _ = cl _
              rw [fgb_step]
              exact mMin_cl (fun k hk => (fb2 q k hk).2) (fun k hk => (fb q k hk).2)
          · rintro z rfl
            simp only [Option.bind_some, reduceIte, if_true, if_false, Bool.false_eq_true, ck_tt, cm_leT (Nat.le_refl (gaV I c n)) (nat_31 (n := gaV I c n) (by omega))]
            exact E1.ok rfl
      · rintro _ rfl
        simp only [Option.bind_some, reduceIte, if_true, if_false, Bool.false_eq_true, ck_tt, ch_r2 hn, ch_ft hn (show i < 64 by omega)]
        refine E1.ok ⟨by omega, _, Prod.ext (nI_1 i) rfl, fun r hr => by rw [u2_o _ _ _ _ hr]; exact hfr r hr, fun s hs => ?_⟩
        by_cases e : s = i
        · subst e; rw [u2_s]
        · rw [u2_n _ _ _ _ (fun z => e z.2)]; exact hva s (by omega)
  · rintro z ⟨-, I1, rfl, hfr, hva⟩
    simp only [Option.bind_some, reduceIte, if_true, if_false, Bool.false_eq_true, ck_tt, v_fI hn.1.1, hfr c (by omega), h.2.1, shl_nI n (by omega), cm_leT (Nat.le_refl (2 ^ n)) (nat_31 (n := 2 ^ n) (by omega))]
    exact E1.ok ⟨I1, rfl, hfr, hva⟩
end CHB
