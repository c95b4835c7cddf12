/-! beyond the newest cell nothing lies -/
def O1 {α : Type} (x : Option α) (Q : α → Prop) : Prop := ∀ a, x = some a → Q a
def ZP (M : Mem) : Prop := ∀ b, qZ M ≤ b → qS M b = 0
theorem O1.ok {α : Type} {a : α} {Q : α → Prop} (h : Q a) : O1 (some a) Q := fun b e => by cases e; exact h
theorem O1.no {α : Type} {Q : α → Prop} : O1 (none : Option α) Q := fun b e => by cases e
theorem O1.bind {α β : Type} {x : Option α} {f : α → Option β} {P : α → Prop} {Q : β → Prop} (h : O1 x P) (k : ∀ a, P a → O1 (f a) Q) : O1 (x.bind f) Q := by
  intro b e
  cases hx : x with
  | none => rw [hx] at e; cases e
  | some a => rw [hx] at e; exact k a (h a hx) b e
theorem O1.any {α β : Type} {x : Option α} {f : α → Option β} {Q : β → Prop} (k : ∀ a, O1 (f a) Q) : O1 (x.bind f) Q := O1.bind (P := fun _ => True) (fun _ _ => trivial) fun a _ => k a
theorem O1.ite {α : Type} {c : Prop} [Decidable c] {x y : Option α} {Q : α → Prop} (h1 : O1 x Q) (h2 : O1 y Q) : O1 (if c then x else y) Q := by
  by_cases h : c
  · rw [if_pos h]; exact h1
  · rw [if_neg h]; exact h2
theorem O1.loop {σ B : Type} {f : σ → Option (σ ⊕ B)} (Inv : σ → Prop) {Q : B → Prop} (h : ∀ s, Inv s → O1 (f s) (Sum.elim Inv Q)) : ∀ (n : Nat) (s : σ), Inv s → O1 (loopN n f s) Q
  | 0, _, _ => fun b e => by cases e
  | n + 1, s, hs => by
    intro b e
    have e : bdS (f s) (loopN n f) = some b := e
    cases hx : f s with
    | none => rw [hx] at e; cases e
    | some r =>
      rw [hx] at e
      have := h s hs r hx
      cases r with
      | inl s' => exact O1.loop Inv h n s' this b e
      | inr o =>
        have e : some o = some b := e
        cases e; exact this
section ZPS
variable {M : Mem}
theorem zp_sI (h : ZP M) (a t k : Nat) (v : Int32) : O1 (sI M a t k v) ZP := O1.ite (O1.ok h) O1.no
theorem zp_sB (h : ZP M) (a t k : Nat) (v : Int32) : O1 (sB M a t k v) ZP := O1.ite (O1.ok h) O1.no
theorem zp_sR (h : ZP M) (a t k r : Nat) : O1 (sR M a t k r) ZP := O1.ite (O1.ok h) O1.no
theorem zp_tI (h : ZP M) (a : Nat) (i v : Int32) : O1 (tI M a i v) ZP := O1.ite (O1.ok h) O1.no
theorem zp_tW (h : ZP M) (a : Nat) (i : Int32) (r : Nat) : O1 (tW M a i r) ZP := O1.ite (O1.ok h) O1.no
theorem zp_tT (h : ZP M) (a : Nat) (i : Int32) (r : Nat) : O1 (tT M a i r) ZP := O1.ite (O1.ok h) O1.no
theorem zp_new (h : ZP M) (t n : Nat) : ZP (pNew M t n) := by
  intro b hb
  have hb : qZ M + 1 ≤ b := hb
  show (if b = qZ M then (t, n) else M.2.2.2.1 b).1 = 0
  rw [if_neg (by omega)]
  exact h b (by omega)
theorem zp_mul (h : ZP M) (n k : Nat) : ZP (pMul M n k) := by
  intro b hb
  have hb : qZ M + 1 + n ≤ b := hb
  show (if b = qZ M then (6, n) else if qZ M < b ∧ b ≤ qZ M + n then (1, k) else M.2.2.2.1 b).1 = 0
  rw [if_neg (by omega), if_neg (by omega)]
  exact h b (by omega)
theorem zp_nO (h : ZP M) (t : Nat) : O1 (nO M t) (fun p => ZP p.2) := O1.ok (zp_new h t 0)
theorem zp_nA (h : ZP M) (t : Nat) (n : Int32) : O1 (nA M t n) (fun p => ZP p.2) := O1.ite (O1.ok (zp_new h t _)) O1.no
theorem zp_nM (h : ZP M) (n k : Nat) : O1 (nM M n k) (fun p => ZP p.2) := O1.ok (zp_mul h n k)
theorem zp_law (h : ZP M) (a : Nat) (x : Int32) (b c : Nat) (y : Int32) : O1 (F_Law_init a x b c y M) ZP := by
  unfold F_Law_init
  refine O1.any fun _ => O1.bind (zp_nA h _ _) fun p2 h2 => O1.bind (zp_sR h2 _ _ _ _) fun m3 h3 => O1.bind (zp_sI h3 _ _ _ _) fun m4 h4 => O1.any fun _ => O1.any fun _ => O1.bind (zp_sI h4 _ _ _ _) fun m7 h7 => O1.any fun _ => O1.bind (zp_nA h7 _ _) fun p8 h8 => O1.bind (zp_sR h8 _ _ _ _) fun m10 h10 => O1.any fun _ => O1.bind (zp_nA h10 _ _) fun p11 h11 => O1.bind (zp_sR h11 _ _ _ _) fun m13 h13 => ?_
  refine O1.loop (fun s : Int32 × Mem => ZP s.2) (fun s hs => ?_) _ _ h13
  refine O1.ite (O1.ok ?_) (O1.any fun _ => O1.any fun _ => O1.bind (zp_tT hs _ _ _) fun m18 h18 => O1.any fun _ => O1.any fun _ => O1.bind (zp_tI h18 _ _ _) fun m21 h21 => O1.ok ?_)
  · exact hs
  · exact h21
theorem zp_world (h : ZP M) (a : Nat) : O1 (F_World_init a M) ZP := by
  unfold F_World_init
  refine O1.any fun _ => O1.bind (zp_sI h _ _ _ _) fun m h => ?_
  refine O1.bind (zp_nA h _ _) fun p h => O1.bind (zp_sR h _ _ _ _) fun m h => ?_
  refine O1.bind (zp_nA h _ _) fun p h => O1.bind (zp_sR h _ _ _ _) fun m h => ?_
  refine O1.bind (zp_nA h _ _) fun p h => O1.bind (zp_sR h _ _ _ _) fun m h => ?_
  refine O1.bind (zp_sI h _ _ _ _) fun m h => ?_
  refine O1.bind (zp_nA h _ _) fun p h => O1.bind (zp_sR h _ _ _ _) fun m h => ?_
  refine O1.bind (zp_nA h _ _) fun p h => O1.bind (zp_sR h _ _ _ _) fun m h => ?_
  refine O1.bind (zp_nA h _ _) fun p h => O1.bind (zp_sR h _ _ _ _) fun m h => ?_
  refine O1.bind (zp_nA h _ _) fun p h => O1.bind (zp_sR h _ _ _ _) fun m h => ?_
  refine O1.bind (zp_nA h _ _) fun p h => O1.bind (zp_sR h _ _ _ _) fun m h => ?_
  refine O1.bind (zp_nM h _ _) fun p h => O1.bind (zp_sR h _ _ _ _) fun m h => ?_
  refine O1.bind (zp_nM h _ _) fun p h => O1.bind (zp_sR h _ _ _ _) fun m h => ?_
  refine O1.bind (zp_sI h _ _ _ _) fun m h => O1.bind (zp_sI h _ _ _ _) fun m h => O1.bind (zp_sI h _ _ _ _) fun m h => O1.bind (zp_sI h _ _ _ _) fun m h => O1.bind (zp_sI h _ _ _ _) fun m h => O1.bind (zp_sI h _ _ _ _) fun m h => O1.bind (zp_sI h _ _ _ _) fun m h => ?_
  refine O1.bind (zp_nO h _) fun p31 h => O1.bind (zp_nA h _ _) fun p h => O1.bind (zp_nA h _ _) fun p h => O1.any fun _ => O1.bind (zp_law h _ _ _ _ _) fun m h => O1.bind (zp_sR h _ _ _ _) fun m h => ?_
  refine O1.loop (fun s : Int32 × Mem => ZP s.2) (fun s hs => ?_) _ _ h
  refine O1.ite (O1.ok ?_) ?_
  · exact hs
  · refine O1.loop (fun s : Int32 × Mem => ZP s.2) (fun s hs => ?_) _ _ hs
    refine O1.ite (O1.ok ?_) (O1.any fun _ => O1.any fun _ => O1.bind (zp_tI hs _ _ _) fun m h => O1.ok ?_)
    · exact hs
    · exact h
theorem zp_chains (h : ZP M) (a : Nat) : O1 (F_Chains_init a M) ZP := by
  unfold F_Chains_init
  exact O1.any fun _ => O1.bind (zp_nM h _ _) fun p h => O1.bind (zp_sR h _ _ _ _) fun m h => O1.bind (zp_nA h _ _) fun p h => O1.bind (zp_sR h _ _ _ _) fun m h => O1.bind (zp_nA h _ _) fun p h => O1.bind (zp_sR h _ _ _ _) fun m h => O1.bind (zp_sI h _ _ _ _) fun m h => O1.ok h
theorem zp_tape (h : ZP M) (a : Nat) : O1 (F_Tape_init a M) ZP := by
  unfold F_Tape_init
  exact O1.any fun _ => O1.bind (zp_nA h _ _) fun p h => O1.bind (zp_sR h _ _ _ _) fun m h => O1.bind (zp_sI h _ _ _ _) fun m h => O1.ok h
theorem zp_text (h : ZP M) (a b : Nat) : O1 (F_Text_init a b M) ZP := by
  unfold F_Text_init
  refine O1.any fun _ => O1.bind (zp_nA h _ _) fun p h => O1.bind (zp_sR h _ _ _ _) fun m h => O1.bind (zp_nA h _ _) fun p h => O1.bind (zp_sR h _ _ _ _) fun m h => O1.bind (zp_nA h _ _) fun p h => O1.bind (zp_sR h _ _ _ _) fun m h => O1.bind (zp_sI h _ _ _ _) fun m h => O1.bind (zp_sI h _ _ _ _) fun m h => O1.bind (zp_sR h _ _ _ _) fun m h => O1.any fun _ => O1.bind (zp_sR h _ _ _ _) fun m h => ?_
  refine O1.loop (fun s : Int32 × Mem => ZP s.2) (fun s hs => ?_) _ _ h
  refine O1.any fun _ => O1.any fun _ => O1.ite (O1.ok ?_) (O1.any fun _ => O1.bind (zp_tT hs _ _ _) fun m h => O1.ok ?_)
  · exact hs
  · exact h
theorem zp_road (h : ZP M) (a b c : Nat) : O1 (F_RoadReader_init a b c M) ZP := by
  unfold F_RoadReader_init F_LineReader_init_4
  exact O1.any fun _ => O1.bind (O1.any fun _ => O1.bind (zp_sR h _ _ _ _) fun m h => O1.ok h) fun m h => O1.bind (zp_sR h _ _ _ _) fun m h => O1.ok h
theorem zp_lawr (h : ZP M) (a b : Nat) : O1 (F_LawReader_init a b M) ZP := by
  unfold F_LawReader_init F_LineReader_init_3
  exact O1.any fun _ => O1.bind (O1.any fun _ => O1.bind (zp_sR h _ _ _ _) fun m h => O1.ok h) fun m h => O1.bind (zp_nA h _ _) fun p h => O1.bind (zp_sR h _ _ _ _) fun m h => O1.bind (zp_nA h _ _) fun p h => O1.bind (zp_sR h _ _ _ _) fun m h => O1.bind (zp_sI h _ _ _ _) fun m h => O1.bind (zp_sI h _ _ _ _) fun m h => O1.ok h
theorem zp_hist (h : ZP M) (a : Nat) : O1 (F_History_init a M) ZP := by
  unfold F_History_init
  refine O1.any fun _ => O1.bind (zp_nA h _ _) fun p h => O1.bind (zp_sR h _ _ _ _) fun m h => O1.bind (zp_sI h _ _ _ _) fun m h => O1.bind (zp_sI h _ _ _ _) fun m h => ?_
  iterate 12 refine O1.any fun _ => O1.bind (zp_nO h _) fun p h => O1.any fun _ => O1.bind (zp_world h _) fun m h => O1.bind (zp_tW h _ _ _) fun m h => ?_
  exact O1.ok h
theorem zp_rr (h : ZP M) (a : Nat) : O1 (F_RR_init a M) ZP := by
  unfold F_RR_init
  refine O1.any fun _ => ?_
  refine O1.bind (zp_nO h _) fun p h => O1.any fun _ => O1.bind (zp_tape h _) fun m h => O1.bind (zp_sR h _ _ _ _) fun m h => ?_
  refine O1.bind (zp_nO h _) fun p h => O1.any fun _ => O1.any fun _ => O1.bind (zp_text h _ _) fun m h => O1.bind (zp_sR h _ _ _ _) fun m h => ?_
  refine O1.bind (zp_nO h _) fun p h => O1.any fun _ => O1.bind (zp_world h _) fun m h => O1.bind (zp_sR h _ _ _ _) fun m h => ?_
  refine O1.bind (zp_nO h _) fun p h => O1.any fun _ => O1.bind (zp_world h _) fun m h => O1.bind (zp_sR h _ _ _ _) fun m h => ?_
  refine O1.bind (zp_nO h _) fun p h => O1.any fun _ => O1.any fun _ => O1.any fun _ => O1.bind (zp_road h _ _ _) fun m h => O1.bind (zp_sR h _ _ _ _) fun m h => ?_
  refine O1.bind (zp_nO h _) fun p h => O1.any fun _ => O1.any fun _ => O1.bind (zp_lawr h _ _) fun m h => O1.bind (zp_sR h _ _ _ _) fun m h => ?_
  refine O1.bind (zp_nO h _) fun p h => O1.any fun _ => O1.bind (zp_hist h _) fun m h => O1.bind (zp_sR h _ _ _ _) fun m h => ?_
  refine O1.bind (zp_nO h _) fun p h => O1.any fun _ => O1.bind (zp_chains h _) fun m h => O1.bind (zp_sR h _ _ _ _) fun m h => ?_
  refine O1.bind (zp_nO h _) fun p h => O1.any fun _ => O1.bind (zp_world h _) fun m h => O1.bind (zp_sR h _ _ _ _) fun m h => ?_
  refine O1.bind (zp_nO h _) fun p h => O1.any fun _ => O1.bind (zp_chains h _) fun m h => O1.bind (zp_sR h _ _ _ _) fun m h => ?_
  exact O1.bind (zp_sB h _ _ _ _) fun m h => O1.bind (zp_sI h _ _ _ _) fun m h => O1.ok h
theorem zp_mo (h : ZP M) (a : Nat) : O1 (F_Mo_init a M) ZP := by
  unfold F_Mo_init
  refine O1.any fun _ => ?_
  iterate 5 refine O1.bind (zp_nA h _ _) fun p h => O1.bind (zp_sR h _ _ _ _) fun m h => ?_
  refine O1.bind (zp_sI h _ _ _ _) fun m h => ?_
  iterate 3 refine O1.bind (zp_nA h _ _) fun p h => O1.bind (zp_sR h _ _ _ _) fun m h => ?_
  exact O1.any fun _ => O1.bind (zp_tI h _ _ _) fun m h => O1.ok h
theorem zp_ini : ZP iniM := by
  have : O1 ini ZP := by
    unfold ini ini1
    refine O1.bind (P := ZP) (O1.bind (zp_nO (M := m0) (fun b _ => rfl) _) fun p h => zp_rr h _) fun m h => O1.bind (zp_nO h _) fun p h => O1.bind (zp_mo h _) fun m h => O1.bind (zp_nA h _ _) fun p h => O1.ok h
  obtain ⟨M, e⟩ := Option.isSome_iff_exists.mp ini_some.1
  unfold iniM
  rw [e]
  exact this M e
end ZPS
