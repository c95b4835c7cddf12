/-! a new law, the class's -/
def nwI (I : IM) (z : Nat) : IM := fun b => if b = z then fun _ => 0 else I b
def nwN (N : NM) (t n : Nat) : NM := (fun b => if b = kZ N then fun _ => 0 else N.1 b, fun b => if b = kZ N then fun _ => 0 else N.2.1 b, fun b => if b = kZ N then (t, n) else N.2.2.1 b, kZ N + 1)
section NEWL
variable {t n b k z d r p : Nat} {I I' : IM} {N N' : NM} {S : List stT} {x y : Int32}
theorem pNew_e (I : IM) (N : NM) (t n : Nat) : pNew (I, N) t n = (nwI I (kZ N), nwN N t n) := rfl
theorem nw_Z : kZ (nwN N t n) = kZ N + 1 := rfl
theorem nw_S (b : Nat) : kS (nwN N t n) b = if b = kZ N then t else kS N b := by
  show (if b = kZ N then (t, n) else N.2.2.1 b).1 = _
  by_cases e : b = kZ N
  · rw [if_pos e, if_pos e]
  · rw [if_neg e, if_neg e]; rfl
theorem nw_N (b : Nat) : kN (nwN N t n) b = if b = kZ N then n else kN N b := by
  show (if b = kZ N then (t, n) else N.2.2.1 b).2 = _
  by_cases e : b = kZ N
  · rw [if_pos e, if_pos e]
  · rw [if_neg e, if_neg e]; rfl
theorem nw_R (h : b ≠ kZ N) : kR (nwN N t n) b k = kR N b k := by
  show (if b = kZ N then fun _ => 0 else N.1 b) k = _
  rw [if_neg h]; rfl
theorem nwI_o (h : b ≠ z) : nwI I z b = I b := if_neg h
theorem nO_e : nO (I, N) t = some (kZ N, (nwI I (kZ N), nwN N t 0)) := rfl
theorem nA_e {x : Int32} (hx : x = nI n) (hn : n ≤ 1000) : nA (I, N) t x = some (kZ N, (nwI I (kZ N), nwN N t n)) := by
  subst hx
  unfold nA
  rw [nI_clamp (by omega), if_pos ⟨nI_pos' (by omega), by omega⟩]
  rfl
theorem rN_S (b : Nat) : kS (rN N d k r) b = kS N b := rfl
theorem rN_N (b : Nat) : kN (rN N d k r) b = kN N b := rfl
theorem rN_Z : kZ (rN N d k r) = kZ N := rfl
theorem rN_s : kR (rN N d k r) d k = r := u2_s _ _ _ _
theorem mm_8 {s : Nat} (h : s ≤ 800) : mMax 0 (mMin (nI s) (mMin (nI 800) (nI 800))) = nI s := by
  have e1 : mMin (nI 800) (nI 800) = nI 800 := by unfold mMin; rw [if_neg (show ¬ nI 800 < nI 800 from nI_nlt (Nat.le_refl _) (by omega))]
  have e2 : mMin (nI s) (nI 800) = nI s := by unfold mMin; rw [if_neg (show ¬ nI 800 < nI s from nI_nlt h (by omega))]
  rw [e1, e2]
  unfold mMax
  by_cases z : (0 : Int32) < nI s
  · rw [if_pos z]
  · rw [if_neg z]
    have h1 : (0 : Int32) ≤ nI s := nI_pos' (by omega)
    exact Int32.le_antisymm h1 (Int32.not_lt.mp z)
/-- the law's rows -/
def NewL (N : NM) (I : IM) (cnt : Int32) (S : List stT) (N' : NM) (I' : IM) : Prop :=
  (∀ c, c < kZ N → I' c = I c ∧ N'.1 c = N.1 c) ∧ (I' (kZ N) 0 = cnt ∧ kR N' (kZ N) 3 = kZ N + 1 ∧ kR N' (kZ N) 1 = kZ N + 2 ∧ kR N' (kZ N) 2 = kZ N + 3) ∧ (kZ N' = kZ N + 4 ∧ (∀ b, kS N' b = if b = kZ N + 3 then 1 else if b = kZ N + 2 then 4 else if b = kZ N + 1 then 1 else if b = kZ N then 12 else kS N b) ∧ ∀ b, kN N' b = if b = kZ N + 3 then S.length else if b = kZ N + 2 then S.length else if b = kZ N + 1 then 64 else if b = kZ N then 0 else kN N b) ∧
    ∀ j x, S[j]? = some x → kR N' (kZ N + 2) j = tkOf x.1 ∧ I' (kZ N + 3) j = x.2
theorem c_written (hs : Shp N) (hC : CD N I S) (hl : S.length ≤ 800) (h18 : ∀ x, x ∈ S → x.1 < 18) : E1 (F_LawReader_written 1074 (I, N)) (fun u => ∃ I' N', u = (kZ N, (I', N')) ∧ NewL N I (I 1074 4) S N' I') := by
  obtain ⟨e0, e1, e2, e3, ⟨e4, e5⟩, ⟨e6, e7⟩⟩ := hs.2.2.2.2.2.1
  obtain ⟨hz, hzz⟩ := hs.2.2.2.2.2.2.2.2.2.2
  have n74 : (1074 : Nat) ≠ kZ N := by omega
  have k1 : kS (nwN N 12 0) 1074 = 13 := by rw [nw_S, if_neg n74]; exact e0
  have r1 : kR (nwN N 12 0) 1074 1 = 1075 := by rw [nw_R n74]; exact e2
  have r2 : kR (nwN N 12 0) 1074 2 = 1076 := by rw [nw_R n74]; exact e3
  have kp : kS (nwN N 12 0) (kZ N) = 12 := by rw [nw_S, if_pos rfl]
  unfold F_LawReader_written F_Law_init
  have kp2 : kS (nwN (nwN N 12 0) 1 64) (kZ N) = 12 := by rw [nw_S, nw_Z, if_neg (by omega)]; exact kp
  have k75 : kS (rN (nwN (nwN N 12 0) 1 64) (kZ N) 3 (kZ N + 1)) 1075 = 4 := by rw [rN_S, nw_S, nw_Z, if_neg (by omega), nw_S, if_neg (by omega)]; exact e4
  have n75 : kN (rN (nwN (nwN N 12 0) 1 64) (kZ N) 3 (kZ N + 1)) 1075 = 800 := by rw [rN_N, nw_N, nw_Z, if_neg (by omega), nw_N, if_neg (by omega)]; exact e5
  have k76 : kS (rN (nwN (nwN N 12 0) 1 64) (kZ N) 3 (kZ N + 1)) 1076 = 1 := by rw [rN_S, nw_S, nw_Z, if_neg (by omega), nw_S, if_neg (by omega)]; exact e6
  have n76 : kN (rN (nwN (nwN N 12 0) 1 64) (kZ N) 3 (kZ N + 1)) 1076 = 800 := by rw [rN_N, nw_N, nw_Z, if_neg (by omega), nw_N, if_neg (by omega)]; exact e7
  have kp3 : kS (rN (nwN (nwN N 12 0) 1 64) (kZ N) 3 (kZ N + 1)) (kZ N) = 12 := kp2
  simp only [nO_e, Option.bind_some, reduceIte, if_true, if_false, Bool.false_eq_true, ck_tt, v_fI k1, v_fR k1, r1, r2, ck_tt (show qS (nwI I (kZ N), nwN N 12 0) (kZ N) ≠ 0 by rw [v_qS, kp]; omega), nwI_o n74, hC.1, nA_e (show (64 : Int32) = nI 64 from rfl) (show 64 ≤ 1000 by omega), v_sR kp2, nw_Z, v_sI kp3, v_aN (show 1 ≤ kS (rN (nwN (nwN N 12 0) 1 64) (kZ N) 3 (kZ N + 1)) 1075 by omega) (show kS (rN (nwN (nwN N 12 0) 1 64) (kZ N) 3 (kZ N + 1)) 1075 ≤ 6 by omega), v_aN (show 1 ≤ kS (rN (nwN (nwN N 12 0) 1 64) (kZ N) 3 (kZ N + 1)) 1076 by omega) (show kS (rN (nwN (nwN N 12 0) 1 64) (kZ N) 3 (kZ N + 1)) 1076 ≤ 6 by omega), n75, n76, mm_8 hl]
  obtain ⟨N3, eN3⟩ : ∃ X, X = rN (nwN (nwN N 12 0) 1 64) (kZ N) 3 (kZ N + 1) := ⟨_, rfl⟩
  obtain ⟨I3, eI3⟩ : ∃ X, X = u2 (u2 (nwI (nwI I (kZ N)) (kZ N + 1)) (kZ N) 4 0) (kZ N) 0 (I 1074 4) := ⟨_, rfl⟩
  rw [← eN3, ← eI3]
  have z3 : kZ N3 = kZ N + 2 := by rw [eN3]; rfl
  have s3 : ∀ b, kS N3 b = if b = kZ N + 1 then 1 else if b = kZ N then 12 else kS N b := fun b => by rw [eN3, rN_S, nw_S, nw_Z, nw_S]
  have t3 : ∀ b, kN N3 b = if b = kZ N + 1 then 64 else if b = kZ N then 0 else kN N b := fun b => by rw [eN3, rN_N, nw_N, nw_Z, nw_N]
  have r3 : kR N3 (kZ N) 3 = kZ N + 1 := by rw [eN3]; exact rN_s
  have o3 : ∀ c, c < kZ N → I3 c = I c ∧ N3.1 c = N.1 c := fun c hc => by
    refine ⟨?_, ?_⟩
    · rw [eI3, u2_o _ _ _ _ (by omega), u2_o _ _ _ _ (by omega), nwI_o (by omega), nwI_o (by omega)]
    · refine funext fun j => ?_
      show kR N3 c j = kR N c j
      rw [eN3, kR_n _ (by omega), nw_R (by rw [nw_Z]; omega), nw_R (by omega)]
  have i3 : I3 (kZ N) 0 = I 1074 4 := by rw [eI3, u2_s]
  have kn : (nI S.length).toNatClampNeg = S.length := nI_clamp (by omega)
  have ka : kS (nwN N3 4 S.length) (kZ N) = 12 := by rw [nw_S, z3, if_neg (by omega), s3, if_neg (by omega), if_pos rfl]
  have kb : kS (nwN (rN (nwN N3 4 S.length) (kZ N) 1 (kZ N + 2)) 1 S.length) (kZ N) = 12 := by rw [nw_S, rN_Z, nw_Z, z3, if_neg (by omega), rN_S]; exact ka
  have kz5 : kZ (rN (nwN N3 4 S.length) (kZ N) 1 (kZ N + 2)) = kZ N + 3 := by rw [rN_Z, nw_Z, z3]
  simp only [kn, ck_tt (show S.length ≤ 800 from hl), nA_e (show nI S.length = nI S.length from rfl) (show S.length ≤ 1000 by omega), z3, Option.bind_some, reduceIte, if_true, if_false, Bool.false_eq_true, ck_tt, v_sR ka, v_sR kb, kz5]
  obtain ⟨N7, eN7⟩ : ∃ X, X = rN (nwN (rN (nwN N3 4 S.length) (kZ N) 1 (kZ N + 2)) 1 S.length) (kZ N) 2 (kZ N + 3) := ⟨_, rfl⟩
  obtain ⟨I7, eI7⟩ : ∃ X, X = nwI (nwI I3 (kZ N + 2)) (kZ N + 3) := ⟨_, rfl⟩
  rw [← eN7, ← eI7]
  have z7 : kZ N7 = kZ N + 4 := by rw [eN7, rN_Z, nw_Z, kz5]
  have s7 : ∀ b, kS N7 b = if b = kZ N + 3 then 1 else if b = kZ N + 2 then 4 else if b = kZ N + 1 then 1 else if b = kZ N then 12 else kS N b := fun b => by rw [eN7, rN_S, nw_S, kz5, rN_S, nw_S, z3, s3]
  have t7 : ∀ b, kN N7 b = if b = kZ N + 3 then S.length else if b = kZ N + 2 then S.length else if b = kZ N + 1 then 64 else if b = kZ N then 0 else kN N b := fun b => by rw [eN7, rN_N, nw_N, kz5, rN_N, nw_N, z3, t3]
  have rr3 : kR N7 (kZ N) 3 = kZ N + 1 := by rw [eN7, kR_n _ (by omega), nw_R (by rw [kz5]; omega), kR_n _ (by omega), nw_R (by rw [z3]; omega)]; exact r3
  have rr1 : kR N7 (kZ N) 1 = kZ N + 2 := by rw [eN7, kR_n _ (by omega), nw_R (by rw [kz5]; omega)]; exact rN_s
  have rr2 : kR N7 (kZ N) 2 = kZ N + 3 := by rw [eN7]; exact rN_s
  have o7 : ∀ c, c < kZ N → I7 c = I c ∧ N7.1 c = N.1 c := fun c hc => by
    refine ⟨?_, ?_⟩
    · rw [eI7, nwI_o (by omega), nwI_o (by omega)]; exact (o3 c hc).1
    · refine funext fun j => ?_
      show kR N7 c j = kR N c j
      rw [eN7, kR_n _ (by omega), nw_R (by rw [kz5]; omega), kR_n _ (by omega), nw_R (by rw [z3]; omega)]
      exact congrFun (o3 c hc).2 j
  have i7 : I7 (kZ N) 0 = I 1074 4 := by rw [eI7, nwI_o (by omega), nwI_o (by omega)]; exact i3
  have loop : E1 (loopN LIM (fun s14 : Int32 × Mem => if nI S.length ≤ s14.1 then (some (.inr (s14.2))) else ((fR s14.2 (kZ N) 12 1).bind fun v16 => (aR s14.2 1075 4 s14.1).bind fun v17 => (tT s14.2 v16 s14.1 v17).bind fun m18 => (fR m18 (kZ N) 12 2).bind fun v19 => (aI m18 1076 s14.1).bind fun v20 => (tI m18 v19 s14.1 v20).bind fun m21 => some (.inl ((s14.1 + (1 : Int32)), m21)))) ((0 : Int32), (I7, N7))) (fun M => ∃ I' N', M = (I', N') ∧ N'.2 = N7.2 ∧ (∀ c, c ≠ kZ N + 2 → N'.1 c = N7.1 c) ∧ (∀ c, c ≠ kZ N + 3 → I' c = I7 c) ∧ ∀ j x, S[j]? = some x → kR N' (kZ N + 2) j = tkOf x.1 ∧ I' (kZ N + 3) j = x.2) := by
    refine lq1 (fun i s => ∃ I' N', s = (nI i, (I', N')) ∧ N'.2 = N7.2 ∧ (∀ c, c ≠ kZ N + 2 → N'.1 c = N7.1 c) ∧ (∀ c, c ≠ kZ N + 3 → I' c = I7 c) ∧ ∀ j x, j < i → S[j]? = some x → kR N' (kZ N + 2) j = tkOf x.1 ∧ I' (kZ N + 3) j = x.2) _ S.length (lim_lt (by omega)) (Nat.zero_le _) ⟨I7, N7, rfl, rfl, fun _ _ => rfl, fun _ _ => rfl, fun j x hj => absurd hj (Nat.not_lt_zero _)⟩ ?_ ?_
    · rintro i s hi ⟨I', N', rfl, f1, f2, f3, f4⟩
      have ex : S[i]? = some S[i] := List.getElem?_eq_getElem hi
      have hx := hC.2 i _ ex
      have hx18 := h18 _ (List.getElem_mem hi)
      have eS : ∀ b, kS N' b = kS N7 b := fun b => by unfold kS; rw [f1]
      have eT : ∀ b, kN N' b = kN N7 b := fun b => by unfold kN; rw [f1]
      have eR : ∀ c k, c ≠ kZ N + 2 → kR N' c k = kR N7 c k := fun c k hc => congrFun (f2 c hc) k
      have oR : ∀ c k, c < kZ N → kR N' c k = kR N c k := fun c k hc => by rw [eR c k (by omega)]; exact congrFun (o7 c hc).2 k
      have q0 : kS N' (kZ N) = 12 := by rw [eS, s7, if_neg (by omega), if_neg (by omega), if_neg (by omega), if_pos rfl]
      have q1 : kR N' (kZ N) 1 = kZ N + 2 := by rw [eR _ _ (by omega)]; exact rr1
      have q2 : kR N' (kZ N) 2 = kZ N + 3 := by rw [eR _ _ (by omega)]; exact rr2
      have a0 : kS N' 1075 = 4 := by rw [eS, s7, if_neg (by omega), if_neg (by omega), if_neg (by omega), if_neg (by omega)]; exact e4
      have a1 : kN N' 1075 = 800 := by rw [eT, t7, if_neg (by omega), if_neg (by omega), if_neg (by omega), if_neg (by omega)]; exact e5
      have b0 : kS N' 1076 = 1 := by rw [eS, s7, if_neg (by omega), if_neg (by omega), if_neg (by omega), if_neg (by omega)]; exact e6
      have b1 : kN N' 1076 = 800 := by rw [eT, t7, if_neg (by omega), if_neg (by omega), if_neg (by omega), if_neg (by omega)]; exact e7
      have c0 : kS N' (kZ N + 2) = 4 := by rw [eS, s7, if_neg (by omega), if_pos rfl]
      have c1 : kN N' (kZ N + 2) = S.length := by rw [eT, t7, if_neg (by omega), if_pos rfl]
      have d0 : kS N' (kZ N + 3) = 1 := by rw [eS, s7, if_pos rfl]
      have d1 : kN N' (kZ N + 3) = S.length := by rw [eT, t7, if_pos rfl]
      have q0' : kS (rN N' (kZ N + 2) i (tkOf S[i].1)) (kZ N) = 12 := q0
      have q2' : kR (rN N' (kZ N + 2) i (tkOf S[i].1)) (kZ N) 2 = kZ N + 3 := by rw [kR_n _ (by omega)]; exact q2
      have b0' : kS (rN N' (kZ N + 2) i (tkOf S[i].1)) 1076 = 1 := b0
      have d0' : kS (rN N' (kZ N + 2) i (tkOf S[i].1)) (kZ N + 3) = 1 := d0
      have vR : kR N' 1075 i = tkOf S[i].1 := by rw [oR _ _ (by omega)]; exact hx.1
      have vI : I' 1076 i = S[i].2 := by rw [f3 _ (by omega), (o7 1076 (by omega)).1]; exact hx.2
      simp only [cm_leF hi (show S.length < 2 ^ 31 by omega), Option.bind_some, reduceIte, if_true, if_false, Bool.false_eq_true, ck_tt, v_fR q0, q1, v_aR a0 a1 (rfl : nI i = nI i) (show i < 800 by omega) (by omega), vR, v_tT c0 (tkOf_r _ hx18) c1 (rfl : nI i = nI i) hi (by omega), v_fR q0', q2', v_aI b0' b1 (rfl : nI i = nI i) (show i < 800 by omega) (by omega), vI, v_tI d0' d1 (rfl : nI i = nI i) hi (by omega), show nI i + (1 : Int32) = nI (i + 1) from nI_add i 1]
      refine E1.ok ⟨_, _, rfl, f1, fun c hc => ?_, fun c hc => ?_, fun j x hj hx' => ?_⟩
      · refine funext fun q => ?_
        show kR (rN N' (kZ N + 2) i (tkOf S[i].1)) c q = _
        rw [kR_n _ (by omega)]; exact congrFun (f2 c hc) q
      · rw [u2_o _ _ _ _ hc]; exact f3 c hc
      · by_cases e : j = i
        · subst e
          rw [ex] at hx'
          cases hx'
          exact ⟨rN_s, u2_s _ _ _ _⟩
        · rw [kR_n _ (by omega), u2_n _ _ _ _ (by omega)]
          exact f4 j x (by omega) hx'
    · rintro s ⟨I', N', rfl, f1, f2, f3, f4⟩
      simp only [cm_leT (Nat.le_refl S.length) (show S.length < 2 ^ 31 by omega), Option.bind_some, reduceIte, if_true, if_false, Bool.false_eq_true, ck_tt]
      refine E1.ok ⟨I', N', rfl, f1, f2, f3, fun j x hx => f4 j x ?_ hx⟩
      rcases Nat.lt_or_ge j S.length with z | z
      · exact z
      · rw [List.getElem?_eq_none z] at hx; cases hx
  refine E1.bind loop ?_
  rintro M ⟨I', N', rfl, f1, f2, f3, f4⟩
  have eS : ∀ b, kS N' b = kS N7 b := fun b => by unfold kS; rw [f1]
  have eT : ∀ b, kN N' b = kN N7 b := fun b => by unfold kN; rw [f1]
  have eR : ∀ c k, c ≠ kZ N + 2 → kR N' c k = kR N7 c k := fun c k hc => congrFun (f2 c hc) k
  have eZ : kZ N' = kZ N7 := by unfold kZ; rw [f1]
  refine E1.ok ⟨I', N', rfl, fun c hc => ⟨by rw [f3 c (by omega)]; exact (o7 c hc).1, by rw [f2 c (by omega)]; exact (o7 c hc).2⟩, ⟨by rw [f3 _ (by omega)]; exact i7, by rw [eR _ _ (by omega)]; exact rr3, by rw [eR _ _ (by omega)]; exact rr1, by rw [eR _ _ (by omega)]; exact rr2⟩, ⟨by rw [eZ, z7], fun b => by rw [eS, s7], fun b => by rw [eT, t7]⟩, f4⟩
end NEWL
