/-! THE MATHEMATICS BEHIND THE MACHINE: memory as (ints, rest), results of one or two functions, loops -/
abbrev IM := Nat → Nat → Int32
abbrev NM := (Nat → Nat → Nat) × (Nat → Nat → Int64) × (Nat → Nat × Nat) × Nat
def kS (N : NM) (a : Nat) : Nat := (N.2.2.1 a).1
def kN (N : NM) (a : Nat) : Nat := (N.2.2.1 a).2
def kR (N : NM) (a k : Nat) : Nat := N.1 a k
def kZ (N : NM) : Nat := N.2.2.2
def rN (N : NM) (a k r : Nat) : NM := (u2 N.1 a k r, N.2)
theorem v_qS (I : IM) (N : NM) (a : Nat) : qS (I, N) a = kS N a := rfl
theorem v_fI {I : IM} {N : NM} {a t k : Nat} (h : kS N a = t) : fI (I, N) a t k = some (I a k) := if_pos h
theorem v_fR {I : IM} {N : NM} {a t k : Nat} (h : kS N a = t) : fR (I, N) a t k = some (kR N a k) := if_pos h
theorem v_sI {I : IM} {N : NM} {a t k : Nat} {v : Int32} (h : kS N a = t) : sI (I, N) a t k v = some (u2 I a k v, N) := if_pos h
theorem v_sB {I : IM} {N : NM} {a t k : Nat} {v : Int32} (h : kS N a = t) (hv : v = 0 ∨ v = 1) : sB (I, N) a t k v = some (u2 I a k v, N) := if_pos ⟨h, hv⟩
theorem v_sR {I : IM} {N : NM} {a t k r : Nat} (h : kS N a = t) : sR (I, N) a t k r = some (I, rN N a k r) := if_pos h
theorem v_ix {i : Int32} {n m : Nat} (e : i = nI n) (h : n < m) (hm : m < 2 ^ 31) : 0 ≤ i ∧ i.toNatClampNeg < m ∧ i.toNatClampNeg = n := by
  subst e
  rw [nI_clamp (by omega)]
  exact ⟨nI_pos' (by omega), h, rfl⟩
theorem v_aI {I : IM} {N : NM} {a n m : Nat} {i : Int32} (h : kS N a = 1) (hn : kN N a = m) (e : i = nI n) (hi : n < m) (hm : m < 2 ^ 31) : aI (I, N) a i = some (I a n) := by
  obtain ⟨h1, h2, h3⟩ := v_ix e hi hm
  unfold aI
  rw [if_pos ⟨h, h1, by show _ < kN N a; rw [hn]; exact h2⟩, h3]
  rfl
theorem v_aB {I : IM} {N : NM} {a n m : Nat} {i : Int32} (h : kS N a = 2) (hn : kN N a = m) (e : i = nI n) (hi : n < m) (hm : m < 2 ^ 31) : aB (I, N) a i = some (I a n) := by
  obtain ⟨h1, h2, h3⟩ := v_ix e hi hm
  unfold aB
  rw [if_pos ⟨h, h1, by show _ < kN N a; rw [hn]; exact h2⟩, h3]
  rfl
theorem v_aL {I : IM} {N : NM} {a n m : Nat} {i : Int32} (h : kS N a = 3) (hn : kN N a = m) (e : i = nI n) (hi : n < m) (hm : m < 2 ^ 31) : aL (I, N) a i = some (N.2.1 a n) := by
  obtain ⟨h1, h2, h3⟩ := v_ix e hi hm
  unfold aL
  rw [if_pos ⟨h, h1, by show _ < kN N a; rw [hn]; exact h2⟩, h3]
  rfl
theorem v_aR {I : IM} {N : NM} {a t n m : Nat} {i : Int32} (h : kS N a = t) (hn : kN N a = m) (e : i = nI n) (hi : n < m) (hm : m < 2 ^ 31) : aR (I, N) a t i = some (kR N a n) := by
  obtain ⟨h1, h2, h3⟩ := v_ix e hi hm
  unfold aR
  rw [if_pos ⟨h, h1, by show _ < kN N a; rw [hn]; exact h2⟩, h3]
  rfl
theorem v_tI {I : IM} {N : NM} {a n m : Nat} {i v : Int32} (h : kS N a = 1) (hn : kN N a = m) (e : i = nI n) (hi : n < m) (hm : m < 2 ^ 31) : tI (I, N) a i v = some (u2 I a n v, N) := by
  obtain ⟨h1, h2, h3⟩ := v_ix e hi hm
  unfold tI
  rw [if_pos ⟨h, h1, by show _ < kN N a; rw [hn]; exact h2⟩, h3]
  rfl
theorem v_tB {I : IM} {N : NM} {a n m : Nat} {i v : Int32} (h : kS N a = 2) (hn : kN N a = m) (e : i = nI n) (hi : n < m) (hm : m < 2 ^ 31) : tB (I, N) a i v = some (u2 I a n v.toInt8.toInt32, N) := by
  obtain ⟨h1, h2, h3⟩ := v_ix e hi hm
  unfold tB
  rw [if_pos ⟨h, h1, by show _ < kN N a; rw [hn]; exact h2⟩, h3]
  rfl
theorem v_tL {I : IM} {N : NM} {a n m : Nat} {i : Int32} {v : Int64} (h : kS N a = 3) (hn : kN N a = m) (e : i = nI n) (hi : n < m) (hm : m < 2 ^ 31) : tL (I, N) a i v = some (I, N.1, u2 N.2.1 a n v, N.2.2) := by
  obtain ⟨h1, h2, h3⟩ := v_ix e hi hm
  unfold tL
  rw [if_pos ⟨h, h1, by show _ < kN N a; rw [hn]; exact h2⟩, h3]
  rfl
theorem v_tT {I : IM} {N : NM} {a n m r : Nat} {i : Int32} (h : kS N a = 4) (hr : 1 ≤ r ∧ r ≤ 36) (hn : kN N a = m) (e : i = nI n) (hi : n < m) (hm : m < 2 ^ 31) : tT (I, N) a i r = some (I, rN N a n r) := by
  obtain ⟨h1, h2, h3⟩ := v_ix e hi hm
  unfold tT
  rw [if_pos ⟨⟨h, hr⟩, h1, by show _ < kN N a; rw [hn]; exact h2⟩, h3]
  rfl
theorem v_tW {I : IM} {N : NM} {a n m r : Nat} {i : Int32} (h : kS N a = 5) (hr : kS N r = 17) (hn : kN N a = m) (e : i = nI n) (hi : n < m) (hm : m < 2 ^ 31) : tW (I, N) a i r = some (I, rN N a n r) := by
  obtain ⟨h1, h2, h3⟩ := v_ix e hi hm
  unfold tW
  rw [if_pos ⟨⟨h, hr⟩, h1, by show _ < kN N a; rw [hn]; exact h2⟩, h3]
  rfl
theorem v_aN {I : IM} {N : NM} {a : Nat} (h1 : 1 ≤ kS N a) (h2 : kS N a ≤ 6) : aN (I, N) a = some (nI (kN N a)) := if_pos ⟨h1, h2⟩
/-- a row copied from the begin -/
def rowI (I : IM) (b : Nat) (f : Nat → Int32) : IM := fun c => if c = b then f else I c
theorem v_cpI {I : IM} {N : NM} {a b n : Nat} {z y x : Int32} (ha : kS N a = 1) (hb : kS N b = 1) (hz : z = 0) (hy : y = 0) (hx : x = nI n) (h1 : n ≤ kN N a) (h2 : n ≤ kN N b) (hn : n < 2 ^ 31) : cpI (I, N) a z b y x = some (rowI I b (fun j => if j < n then I a j else I b j), N) := by
  subst hz hy hx
  unfold cpI
  have e0 : (0 : Int32).toNatClampNeg = 0 := rfl
  rw [nI_clamp hn, e0, if_pos ⟨⟨ha, hb⟩, ⟨by decide, by decide, nI_pos' hn⟩, by rw [Nat.zero_add]; exact h1, by rw [Nat.zero_add]; exact h2⟩]
  refine congrArg some (Prod.ext ?_ rfl)
  show (fun c => if c = b then va_cpy (I a) (I b) 0 0 n else I c) = (fun c => if c = b then (fun j => if j < n then I a j else I b j) else I c)
  refine funext fun c => ?_
  by_cases h : c = b
  · rw [if_pos h, if_pos h]
    refine funext fun j => ?_
    by_cases hj : j < n
    · rw [if_pos hj, pk_cpy_in (Nat.zero_le _) (by omega)]
      simp
    · rw [if_neg hj, pk_cpy_out (Or.inr (by omega))]
  · rw [if_neg h, if_neg h]
theorem ck_tt {p : Prop} [Decidable p] (h : p) {α : Type} (f : Unit → Option α) : (ck p).bind f = f () := by rw [ck_t h]; rfl
/-! one function's end, two functions' ends -/
def E1 {α : Type} (x : Option α) (Q : α → Prop) : Prop := ∃ a, x = some a ∧ Q a
def E2 {α β : Type} (x : Option α) (y : Option β) (Q : α → β → Prop) : Prop := ∃ a b, x = some a ∧ y = some b ∧ Q a b
theorem E1.ok {α : Type} {a : α} {Q : α → Prop} (h : Q a) : E1 (some a) Q := ⟨a, rfl, h⟩
theorem E2.ok {α β : Type} {a : α} {b : β} {Q : α → β → Prop} (h : Q a b) : E2 (some a) (some b) Q := ⟨a, b, rfl, rfl, h⟩
theorem E1.bind {α β : Type} {x : Option α} {f : α → Option β} {P : α → Prop} {Q : β → Prop} (h : E1 x P) (k : ∀ a, P a → E1 (f a) Q) : E1 (x.bind f) Q := by
  obtain ⟨a, rfl, ha⟩ := h
  exact k a ha
theorem E1.imp {α : Type} {x : Option α} {P Q : α → Prop} (h : E1 x P) (k : ∀ a, P a → Q a) : E1 x Q := by
  obtain ⟨a, e, ha⟩ := h
  exact ⟨a, e, k a ha⟩
theorem E2.imp {α β : Type} {x : Option α} {y : Option β} {P Q : α → β → Prop} (h : E2 x y P) (k : ∀ a b, P a b → Q a b) : E2 x y Q := by
  obtain ⟨a, b, e, e', ha⟩ := h
  exact ⟨a, b, e, e', k a b ha⟩
theorem E2.bind {α β γ δ : Type} {x : Option α} {y : Option γ} {f : α → Option β} {g : γ → Option δ} {P : α → γ → Prop} {Q : β → δ → Prop} (h : E2 x y P) (k : ∀ a b, P a b → E2 (f a) (g b) Q) : E2 (x.bind f) (y.bind g) Q := by
  obtain ⟨a, b, rfl, rfl, ha⟩ := h
  exact k a b ha
theorem E2.left {α β γ : Type} {x : Option α} {y : Option γ} {f : α → Option β} {P : α → Prop} {Q : β → γ → Prop} (h : E1 x P) (k : ∀ a, P a → E2 (f a) y Q) : E2 (x.bind f) y Q := by
  obtain ⟨a, rfl, ha⟩ := h
  exact k a ha
theorem E2.right {α β γ : Type} {x : Option α} {y : Option γ} {f : γ → Option β} {P : γ → Prop} {Q : α → β → Prop} (h : E1 y P) (k : ∀ a, P a → E2 x (f a) Q) : E2 x (y.bind f) Q := by
  obtain ⟨a, rfl, ha⟩ := h
  exact k a ha
theorem E2.mk {α β : Type} {x : Option α} {y : Option β} {P : α → Prop} {Q : α → β → Prop} (h : E1 x P) (k : ∀ a, P a → E1 y (Q a)) : E2 x y Q := by
  obtain ⟨a, rfl, ha⟩ := h
  obtain ⟨b, rfl, hb⟩ := k a ha
  exact ⟨a, b, rfl, rfl, hb⟩
theorem E2.bindL {α β γ : Type} {x : Option α} {y : Option γ} {f : α → Option β} {P : α → γ → Prop} {Q : β → γ → Prop} (h : E2 x y P) (k : ∀ a b, P a b → E1 (f a) (fun r => Q r b)) : E2 (x.bind f) y Q := by
  obtain ⟨a, b, rfl, rfl, ha⟩ := h
  obtain ⟨r, e, q⟩ := k a b ha
  exact ⟨r, b, e, rfl, q⟩
theorem E2.bindR {α β γ : Type} {x : Option α} {y : Option γ} {f : γ → Option β} {P : α → γ → Prop} {Q : α → β → Prop} (h : E2 x y P) (k : ∀ a b, P a b → E1 (f b) (fun r => Q a r)) : E2 x (y.bind f) Q := by
  obtain ⟨a, b, rfl, rfl, ha⟩ := h
  obtain ⟨r, e, q⟩ := k a b ha
  exact ⟨a, r, rfl, e, q⟩
theorem u2_self (I : IM) (c j : Nat) : u2 I c j (I c j) = I := by
  refine funext fun d => funext fun i => ?_
  by_cases e : d = c ∧ i = j
  · rw [e.1, e.2, u2_s]
  · rw [u2_n _ _ _ _ e]
/-! loops: a counter from 0 (or i) to n; the end by the counter or by a way out -/
theorem lq_1 {σ B : Type} {f : σ → Option (σ ⊕ B)} (Inv : Nat → σ → Prop) (Q : B → Prop) (n : Nat)
    (st : ∀ i s, i < n → Inv i s → E1 (f s) (Sum.elim (Inv (i + 1)) Q)) (en : ∀ s, Inv n s → E1 (f s) (Sum.elim (fun _ => False) Q)) :
    ∀ (fuel i : Nat) (s : σ), i ≤ n → n - i < fuel → Inv i s → E1 (loopN fuel f s) Q
  | 0, i, s, _, h, _ => absurd h (Nat.not_lt_zero _)
  | fuel + 1, i, s, hi, h, hs => by
    by_cases e : i = n
    · subst e
      obtain ⟨r, e1, q⟩ := en s hs
      cases r with
      | inl _ => exact q.elim
      | inr b => exact ⟨b, by show bdS (f s) _ = _; rw [e1]; rfl, q⟩
    · obtain ⟨r, e1, q⟩ := st i s (by omega) hs
      cases r with
      | inl s' =>
        obtain ⟨b, e2, q2⟩ := lq_1 Inv Q n st en fuel (i + 1) s' (by omega) (by omega) q
        exact ⟨b, by show bdS (f s) _ = _; rw [e1]; exact e2, q2⟩
      | inr b => exact ⟨b, by show bdS (f s) _ = _; rw [e1]; rfl, q⟩
theorem lq1 {σ B : Type} {f : σ → Option (σ ⊕ B)} (Inv : Nat → σ → Prop) (Q : B → Prop) (n : Nat) (hn : n < LIM) {i : Nat} (hi : i ≤ n) {s : σ} (h0 : Inv i s)
    (st : ∀ i s, i < n → Inv i s → E1 (f s) (Sum.elim (Inv (i + 1)) Q)) (en : ∀ s, Inv n s → E1 (f s) (Sum.elim (fun _ => False) Q)) : E1 (loopN LIM f s) Q := lq_1 Inv Q n st en LIM i s hi (by omega) h0
theorem lq1L {σ B : Type} {L : Nat} (hL : L = LIM) {f : σ → Option (σ ⊕ B)} (Inv : Nat → σ → Prop) (Q : B → Prop) (n : Nat) (hn : n < LIM) {i : Nat} (hi : i ≤ n) {s : σ} (h0 : Inv i s)
    (st : ∀ i s, i < n → Inv i s → E1 (f s) (Sum.elim (Inv (i + 1)) Q)) (en : ∀ s, Inv n s → E1 (f s) (Sum.elim (fun _ => False) Q)) : E1 (loopN L f s) Q := by
  rw [hL]
  exact lq1 Inv Q n hn hi h0 st en
/-- two loops side by side -/
def S2 {σ τ B C : Type} (P : σ → τ → Prop) (Q : B → C → Prop) : σ ⊕ B → τ ⊕ C → Prop
  | .inl s, .inl t => P s t
  | .inr b, .inr c => Q b c
  | _, _ => False
theorem lq_2 {σ τ B C : Type} {f : σ → Option (σ ⊕ B)} {g : τ → Option (τ ⊕ C)} (Inv : Nat → σ → τ → Prop) (Q : B → C → Prop) (n : Nat)
    (st : ∀ i s t, i < n → Inv i s t → E2 (f s) (g t) (S2 (Inv (i + 1)) Q)) (en : ∀ s t, Inv n s t → E2 (f s) (g t) (S2 (fun _ _ => False) Q)) :
    ∀ (fuel i : Nat) (s : σ) (t : τ), i ≤ n → n - i < fuel → Inv i s t → E2 (loopN fuel f s) (loopN fuel g t) Q
  | 0, i, s, t, _, h, _ => absurd h (Nat.not_lt_zero _)
  | fuel + 1, i, s, t, hi, h, hs => by
    by_cases e : i = n
    · subst e
      obtain ⟨r, u, e1, e2, q⟩ := en s t hs
      cases r with
      | inl _ => cases u with
        | inl _ => exact q.elim
        | inr _ => exact q.elim
      | inr b => cases u with
        | inl _ => exact q.elim
        | inr c => exact ⟨b, c, by show bdS (f s) _ = _; rw [e1]; rfl, by show bdS (g t) _ = _; rw [e2]; rfl, q⟩
    · obtain ⟨r, u, e1, e2, q⟩ := st i s t (by omega) hs
      cases r with
      | inl s' => cases u with
        | inl t' =>
          obtain ⟨b, c, e3, e4, q2⟩ := lq_2 Inv Q n st en fuel (i + 1) s' t' (by omega) (by omega) q
          exact ⟨b, c, by show bdS (f s) _ = _; rw [e1]; exact e3, by show bdS (g t) _ = _; rw [e2]; exact e4, q2⟩
        | inr _ => exact q.elim
      | inr b => cases u with
        | inl _ => exact q.elim
        | inr c => exact ⟨b, c, by show bdS (f s) _ = _; rw [e1]; rfl, by show bdS (g t) _ = _; rw [e2]; rfl, q⟩
theorem lq2 {σ τ B C : Type} {f : σ → Option (σ ⊕ B)} {g : τ → Option (τ ⊕ C)} (Inv : Nat → σ → τ → Prop) (Q : B → C → Prop) (n : Nat) (hn : n < LIM) {i : Nat} (hi : i ≤ n) {s : σ} {t : τ} (h0 : Inv i s t)
    (st : ∀ i s t, i < n → Inv i s t → E2 (f s) (g t) (S2 (Inv (i + 1)) Q)) (en : ∀ s t, Inv n s t → E2 (f s) (g t) (S2 (fun _ _ => False) Q)) : E2 (loopN LIM f s) (loopN LIM g t) Q := lq_2 Inv Q n st en LIM i s t hi (by omega) h0
theorem lim_lt {n : Nat} (h : n ≤ 99999) : n < LIM := by
  have : LIM = 100000 := rfl
  omega
/-! comparisons of counters -/
theorem cm_leF {a b : Nat} (h : a < b) (hb : b < 2 ^ 31) : (nI b ≤ nI a) = False := eq_false (nI_ge h hb)
theorem cm_leT {a b : Nat} (h : b ≤ a) (ha : a < 2 ^ 31) : (nI b ≤ nI a) = True := eq_true (nI_le h ha)
theorem cm_ltF {a b : Nat} (h : b ≤ a) (ha : a < 2 ^ 31) : (nI a < nI b) = False := eq_false (nI_nlt h ha)
theorem cm_ltT {a b : Nat} (h : a < b) (hb : b < 2 ^ 31) : (nI a < nI b) = True := eq_true (nI_lt h hb)
theorem cm_eqF {a b : Nat} (h : a ≠ b) (ha : a < 2 ^ 31) (hb : b < 2 ^ 31) : (nI a = nI b) = False := eq_false fun q => h ((nI_eq ha hb).mp q)
theorem nI_def (n : Nat) : nI n = Int32.ofNat n := rfl
