/-! objects' fields -/
def okT (t : FieldType) : Bool := match t with
  | .long => false
  | .float => false
  | .double => false
  | _ => true
def CL (ci : Nat) (C : String) (T : u_T) (N : Nat) : Prop := vwCl[ci]? = some (C, T, N) ∧ N = nfl ci ∧ (∀ w ∈ u_ws C T N, w ∈ gw) ∧ (∀ k, k < N → parseFieldDescriptor (T k).2.2.1 = some (tyOf ci k)) ∧ (∀ a, a < N → ∀ b, b < N → a ≠ b → (T a).2.1 ≠ (T b).2.1) ∧ ∀ k, k < N → okT (tyOf ci k) = true
/-- what the tables say of a row of a class's own table that names a field -/
def FL (own : String) (idx ci k : Nat) (ty : FieldType) (fin w : Bool) : Prop := ∃ (C : String) (T : u_T) (N : Nat) (ref : String), CL ci C T N ∧ k < N ∧ tyOf ci k = ty ∧ (T k).2.2.2 = fin ∧ (w = true → fin = true → (T k).1 = own) ∧
  (Cond.fieldLink own idx ref (T k).2.1 (T k).2.2.1 ∈ gw ∨ ∃ host, Cond.fieldLinkNest own idx ref (T k).2.1 (T k).2.2.1 host ∈ nw) ∧ (ref = (T k).1 ∨ Cond.sameField ref (T k).1 (T k).2.1 (T k).2.2.1 ∈ gw)
theorem fsl_len (X : Cx) (ci : Nat) (i : Nat → Int32) (r : Nat → Nat) : (fsl X ci i r).length = nfl ci := by unfold fsl; rw [List.length_map, List.length_range]
theorem fsl_at (X : Cx) (ci : Nat) (i : Nat → Int32) (r : Nat → Nat) {k : Nat} (hk : k < nfl ci) : (fsl X ci i r)[k]? = some (fv X ci i r k) := by
  unfold fsl
  rw [List.getElem?_map, List.getElem?_range hk]
  rfl
theorem fsl_set (X : Cx) (ci : Nat) (i i' : Nat → Int32) (r r' : Nat → Nat) {k : Nat} (v : Value) (hv : fv X ci i' r' k = v) (ho : ∀ j, j ≠ k → fv X ci i' r' j = fv X ci i r j) : fsl X ci i' r' = (fsl X ci i r).set k v := by
  apply List.ext_getElem?
  intro j
  by_cases hj : j < nfl ci
  · rw [fsl_at X ci i' r' hj]
    by_cases e : j = k
    · subst e
      rw [List.getElem?_set_self (by rw [fsl_len]; exact hj), hv]
    · rw [List.getElem?_set_ne (fun q => e q.symm), fsl_at X ci i r hj, ho j e]
  · rw [List.getElem?_eq_none (by rw [fsl_len]; omega), List.getElem?_eq_none (by rw [List.length_set, fsl_len]; omega)]
theorem ent_obj {X : Cx} {M : Mem} {a ci : Nat} (h : qS M a = 10 + ci) : ent X M a = .inr (ci, fsl X ci (qI M a) (qR M a)) := by
  unfold ent
  rw [h, if_neg (by omega), if_neg (by omega), if_neg (by omega), if_neg (by omega), Nat.add_sub_cancel_left]
section GM
variable {X : Cx} {Y : My} {P : List Frame → Array Value → State → State → Prop} {pc : Nat} {ls st : List Value} {cs ss : Nat} {M : Mem}
theorem g_get {idx ci k a : Nat} {ty : FieldType} {fin w : Bool} {v : Value} (d : decode (yC Y) pc = .ok (.getfield idx, 3)) (hf : FL (yN Y).cls idx ci k ty fin w) (h30 : ci ≠ 20) (ha : qS M a = 10 + ci) (hv : fv X ci (qI M a) (qR M a) k = cv X v)
    (kk : G X Y P (pc + 3) ls (v :: st) cs ss M) : G X Y P pc ls (.ref a :: st) cs ss M := by
  intro p e s m args below meth c F H locs la hR hS hL
  have h0 : qS M a ≠ 0 := by omega
  have hat := hR.at h0 (by omega)
  rw [ent_obj ha] at hat
  obtain ⟨C, T, N, ref, ⟨c1, c2, c3, c4, c5, -⟩, hk, hty, -, -, hlk, hsm⟩ := hf
  have hP : va_P (xD X) vwCl [(ra X a, .inr (ci, fsl X ci (qI M a) (qR M a)))] H := fun i q hq => by
    cases i with
    | zero => cases hq; exact hat
    | succ i => cases hq
  have hsame : ∀ x, s.fieldFound? (T k).1 (T k).2.1 (T k).2.2.1 = some x → s.fieldFound? ref (T k).2.1 (T k).2.2.1 = some x := by
    intro x hx
    rcases hsm with e | e
    · rw [e]; exact hx
    · exact u_same (F.2.1 _ e) x hx
  have hve : (fsl X ci (qI M a) (qR M a))[k]? = some (cv X v) := by rw [fsl_at X ci _ _ (c2 ▸ hk), hv]
  have h2 := kk p e s m args below meth c F H locs la hR hS hL
  rw [List.map_cons] at h2 ⊢
  rw [cv_ref X (hR.ne h0)]
  rcases hlk with hl | ⟨host, hl⟩
  · exact va_get (D := xD X) (ci := ci) (C := C) (T := T) (N := N) (Ts := gw) F.1.1 F.1.2.1 F.2.1 c3 F.1.2.2.2.1 F.2.2.1.1 hP 0 rfl c1 k hk (F.2.1 _ hl) hsame hve d h2
  · exact va_getN (D := xD X) (ci := ci) (C := C) (T := T) (N := N) (Ts := gw) F.1.1 F.1.2.1 F.2.1 c3 F.1.2.2.2.1 F.2.2.1.1 hP 0 rfl c1 k hk (va_Nw.use rfl (F.2.2.1.2.1 _ hl)) hsame hve d h2
theorem rr_put {p : Program} {l : Launch} {e : Env} {R : Room} {s : State} {m : MethodId} {args : Array Value} {below : List Frame} {meth : Method} {c : Code} {H : Heap} {locs : List Loc} {cells slots : Nat} {Q : State → Prop}
    {cc : ByteArray} {pc : Nat} {ls : Array Slot} {rest : List Value} {D : va_G} {a : Nat} {tys : List (ClassId × FieldType)} (hexec : p.tables.exec = Jvm.exec) (hb : c.code = cc) {own ref C : String} {T : u_T} {N ci index : Nat} {Ts : List Cond} (hts : ∀ w ∈ Ts, w.before args s = true) (hin : ∀ w ∈ u_ws C T N, w ∈ Ts) (ty0 : Nat → FieldType) (hty : ∀ k, k < N → parseFieldDescriptor (T k).2.2.1 = some (ty0 k)) (hnm : ∀ a, a < N → ∀ b, b < N → a ≠ b → (T a).2.1 ≠ (T b).2.1) (hown : s.vm.findClass own = some m.cls) (hK : va_K D vwCl tys s) {fs : List Value} (he : va_at D vwCl (a, .inr (ci, fs)) H) (hc : vwCl[ci]? = some (C, T, N)) (k : Nat) (hk : k < N)
    (hlink : (Cond.fieldLink own index ref (T k).2.1 (T k).2.2.1).before args s = true ∨ ∃ host, (Cond.fieldLinkNest own index ref (T k).2.1 (T k).2.2.1 host).before args s = true) (hsame : ∀ x, s.fieldFound? (T k).1 (T k).2.1 (T k).2.2.1 = some x → s.fieldFound? ref (T k).2.1 (T k).2.2.1 = some x) (hfin : (T k).2.2.2 = true → meth.name = "<init>" ∧ (T k).1 = own ∧ (Cond.fieldLink own index ref (T k).2.1 (T k).2.2.1).before args s = true) {ty : FieldType} {v : Value} (hd : parseFieldDescriptor (T k).2.2.1 = some ty) (hn : narrow ty v = v) (hfit : fits ty v = true) (hl : k < fs.length)
    (hdg : decode cc pc = .ok (.putfield index, 3)) (kk : ∀ (H1 : Heap) (j : Nat), va_at D vwCl (a, .inr (ci, fs.set k v)) H1 → H1.size = H.size → (∀ q : Nat, q ≠ a → H1[q]? = H[q]?) → W p l e R s m args below meth c H1 (locs ++ [⟨a, j⟩]) cells slots Q (F0 m (pc + 3) ls rest)) : W p l e R s m args below meth c H locs cells slots Q (F0 m pc ls (v :: .ref a :: rest)) := by
  have hap := va_apart (own := own) hts hin ty0 hty hnm hK hc
  obtain ⟨r, h1, cell, q1, q2, q3, q4⟩ := he
  have hr : r = (C, T, N) := Option.some.inj (h1.symm.trans hc)
  subst hr
  obtain ⟨hS, hfc, kC, hkC, hkind⟩ := hK.1 ci _ hc
  obtain ⟨cf, kf, fi, f, hi, hsl⟩ := hS k hk
  have hlay := hts _ (hin _ (u_in_lay hk))
  unfold u_lay at hlay
  have hst := (u_facts hfc hkC (u_lays hts hin hk) hi).1
  by_cases hb9 : (T k).2.2.2 = true
  · rw [if_pos hb9] at hlay
    obtain ⟨hin2, hdecl, hlink⟩ := hfin hb9
    have hcf : m.cls = cf := by
      obtain ⟨_, _, c', _, _, _, -, -, hf', -, -, -, hown2, -⟩ := Cond.laysFinal_spec hlay
      have e1 : c' = cf := by have := hi.symm.trans hf'; simp at this; exact this.1.symm
      rw [hdecl] at hown2
      rw [← e1]; exact Option.some.inj (hown.symm.trans hown2)
    have h6 := u_fits hfc hkC hkind (Or.inr hlay) hi hd hn hfit
    refine W.putFinK hexec hb hown hlink (hsame _ hi) hst hcf hin2 (by rw [q2]; exact h6) q1 q3 (by rw [hsl]; exact k2_hasslot (q4 k hk)) rfl rfl hdg fun H' e1 e2 e3 => ?_
    rw [hsl] at e1 ⊢
    exact kk H' _ ⟨_, hc, t_OB.to (V := updV (vp_V fs) k v) ⟨_, e1, q2, q3, t_set q4 hap hk v⟩ (fun j _ => vp_updV_set hl v j)⟩ e2 e3
  · rw [if_neg hb9] at hlay
    have h6 := u_store hfc hkC hkind hlay hi hd hn hfit
    rcases hlink with hlink | ⟨host, hlink⟩
    · refine W.putK hexec hb (f := f) ⟨hown, hlink, ⟨_, _, _, hsame _ hi⟩, hst⟩ (by rw [q2]; exact h6) q1 q3 (by rw [hsl]; exact k2_hasslot (q4 k hk)) rfl rfl hdg fun H' e1 e2 e3 => ?_
      rw [hsl] at e1 ⊢
      exact kk H' _ ⟨_, hc, t_OB.to (V := updV (vp_V fs) k v) ⟨_, e1, q2, q3, t_set q4 hap hk v⟩ (fun j _ => vp_updV_set hl v j)⟩ e2 e3
    · refine va_WputK hexec hb (f := f) hown hlink (hsame _ hi) hst (by rw [q2]; exact h6) q1 q3 (by rw [hsl]; exact k2_hasslot (q4 k hk)) rfl rfl hdg fun H' e1 e2 e3 => ?_
      rw [hsl] at e1 ⊢
      exact kk H' _ ⟨_, hc, t_OB.to (V := updV (vp_V fs) k v) ⟨_, e1, q2, q3, t_set q4 hap hk v⟩ (fun j _ => vp_updV_set hl v j)⟩ e2 e3
theorem g_put {idx ci k a : Nat} {ty : FieldType} {fin : Bool} {v : Value} {M' : Mem} (d : decode (yC Y) pc = .ok (.putfield idx, 3)) (hf : FL (yN Y).cls idx ci k ty fin true) (h30 : ci ≠ 20) (ha : qS M a = 10 + ci)
    (hfin : fin = true → (yN Y).name = "<init>" ∧ ∀ ref n ds host, Cond.fieldLinkNest (yN Y).cls idx ref n ds host ∉ nw) (hn : narrow ty (cv X v) = cv X v) (hfit : fits ty (cv X v) = true)
    (hz : qZ M' = qZ M) (hs : ∀ b, qS M' b = qS M b) (he : ∀ b, b ≠ a → ent X M' b = ent X M b) (hv : fv X ci (qI M' a) (qR M' a) k = cv X v) (ho : ∀ j, j ≠ k → fv X ci (qI M' a) (qR M' a) j = fv X ci (qI M a) (qR M a) j)
    (kk : G X Y P (pc + 3) ls st cs ss M') : G X Y P pc ls (v :: .ref a :: st) cs ss M := by
  intro p e s m args below meth c F H locs la hR hS hL
  have h0 : qS M a ≠ 0 := by omega
  have hat := hR.at h0 (by omega)
  rw [ent_obj ha] at hat
  obtain ⟨C, T, N, ref, ⟨c1, c2, c3, c4, c5, -⟩, hk, hty, hfi, hdc, hlk, hsm⟩ := hf
  have hsame : ∀ x, s.fieldFound? (T k).1 (T k).2.1 (T k).2.2.1 = some x → s.fieldFound? ref (T k).2.1 (T k).2.2.1 = some x := by
    intro x hx
    rcases hsm with e | e
    · rw [e]; exact hx
    · exact u_same (F.2.1 _ e) x hx
  have hlb : (Cond.fieldLink (yN Y).cls idx ref (T k).2.1 (T k).2.2.1).before args s = true ∨ ∃ host, (Cond.fieldLinkNest (yN Y).cls idx ref (T k).2.1 (T k).2.2.1 host).before args s = true := by
    rcases hlk with hl | ⟨host, hl⟩
    · exact Or.inl (F.2.1 _ hl)
    · exact Or.inr ⟨host, va_Nw.use rfl (F.2.2.1.2.1 _ hl)⟩
  rw [List.map_cons, List.map_cons, cv_ref X (hR.ne h0)]
  refine rr_put (D := xD X) (Ts := gw) F.1.1 F.1.2.1 F.2.1 c3 (tyOf ci) c4 c5 F.1.2.2.2.1 F.2.2.1.1 hat c1 k hk hlb hsame (fun hb9 => ?_) ((c4 k hk).trans (congrArg some hty)) hn hfit (by rw [fsl_len, ← c2]; exact hk) d fun H1 j g1 g2 g3 => ?_
  · have hb8 : fin = true := hfi.symm.trans hb9
    refine ⟨F.1.2.2.2.2.2.2.trans (hfin hb8).1, hdc rfl hb8, ?_⟩
    rcases hlk with hl | ⟨host, hl⟩
    · exact F.2.1 _ hl
    · exact absurd hl ((hfin hb8).2 _ _ _ _)
  · have hat' : va_at (xD X) vwCl (ra X a, ent X M' a) H1 := by
      rw [ent_obj ((hs a).trans ha), fsl_set X ci (qI M a) (qI M' a) (qR M a) (qR M' a) (cv X v) hv ho]
      exact g1
    exact kk p e s m args below meth c F H1 _ la (hR.upd h0 hz hs he hat' g2 g3) (hS.put g2 g3 (hR.A h0)) hL
end GM
/-! the words of the abstract programs -/
def fI (M : Mem) (a t k : Nat) : Option Int32 := if qS M a = t then some (qI M a k) else none
def fR (M : Mem) (a t k : Nat) : Option Nat := if qS M a = t then some (qR M a k) else none
def sI (M : Mem) (a t k : Nat) (v : Int32) : Option Mem := if qS M a = t then some (pI M a k v) else none
def sB (M : Mem) (a t k : Nat) (v : Int32) : Option Mem := if qS M a = t ∧ (v = 0 ∨ v = 1) then some (pI M a k v) else none
def sR (M : Mem) (a t k r : Nat) : Option Mem := if qS M a = t then some (pR M a k r) else none
theorem fI_s {M : Mem} {a t k : Nat} {v : Int32} (h : fI M a t k = some v) : qS M a = t ∧ qI M a k = v := by
  unfold fI at h
  by_cases e : qS M a = t
  · rw [if_pos e] at h; exact ⟨e, Option.some.inj h⟩
  · rw [if_neg e] at h; cases h
theorem fR_s {M : Mem} {a t k : Nat} {v : Nat} (h : fR M a t k = some v) : qS M a = t ∧ qR M a k = v := by
  unfold fR at h
  by_cases e : qS M a = t
  · rw [if_pos e] at h; exact ⟨e, Option.some.inj h⟩
  · rw [if_neg e] at h; cases h
theorem sI_s {M M' : Mem} {a t k : Nat} {v : Int32} (h : sI M a t k v = some M') : qS M a = t ∧ pI M a k v = M' := by
  unfold sI at h
  by_cases e : qS M a = t
  · rw [if_pos e] at h; exact ⟨e, Option.some.inj h⟩
  · rw [if_neg e] at h; cases h
theorem sB_s {M M' : Mem} {a t k : Nat} {v : Int32} (h : sB M a t k v = some M') : qS M a = t ∧ (v = 0 ∨ v = 1) ∧ pI M a k v = M' := by
  unfold sB at h
  by_cases e : qS M a = t ∧ (v = 0 ∨ v = 1)
  · rw [if_pos e] at h; exact ⟨e.1, e.2, Option.some.inj h⟩
  · rw [if_neg e] at h; cases h
theorem sR_s {M M' : Mem} {a t k r : Nat} (h : sR M a t k r = some M') : qS M a = t ∧ pR M a k r = M' := by
  unfold sR at h
  by_cases e : qS M a = t
  · rw [if_pos e] at h; exact ⟨e, Option.some.inj h⟩
  · rw [if_neg e] at h; cases h
theorem ent_off {X : Cx} {M M' : Mem} {b : Nat} (h1 : qS M' b = qS M b) (h2 : qN M' b = qN M b) (h3 : qI M' b = qI M b) (h4 : qR M' b = qR M b) (h5 : qL M' b = qL M b) : ent X M' b = ent X M b := by
  unfold ent
  rw [h1, h2, h3, h4, h5]
theorem ent_pI {X : Cx} {M : Mem} {a k : Nat} {v : Int32} {b : Nat} (h : b ≠ a) : ent X (pI M a k v) b = ent X M b := ent_off rfl rfl (u2_o _ _ _ _ h) rfl rfl
theorem ent_pR {X : Cx} {M : Mem} {a k r : Nat} {b : Nat} (h : b ≠ a) : ent X (pR M a k r) b = ent X M b := ent_off rfl rfl rfl (u2_o _ _ _ _ h) rfl
theorem ent_pL {X : Cx} {M : Mem} {a k : Nat} {v : Int64} {b : Nat} (h : b ≠ a) : ent X (pL M a k v) b = ent X M b := ent_off rfl rfl rfl rfl (u2_o _ _ _ _ h)
theorem ent_pRow {X : Cx} {M : Mem} {a : Nat} {f : Nat → Int32} {b : Nat} (h : b ≠ a) : ent X (pRow M a f) b = ent X M b := ent_off rfl rfl (if_neg h) rfl rfl
theorem qI_pI_s (M : Mem) (a k : Nat) (v : Int32) : qI (pI M a k v) a k = v := u2_s _ _ _ _
theorem qI_pI_n (M : Mem) {a k : Nat} (v : Int32) {b j : Nat} (h : ¬ (b = a ∧ j = k)) : qI (pI M a k v) b j = qI M b j := u2_n _ _ _ _ h
theorem qR_pR_s (M : Mem) (a k r : Nat) : qR (pR M a k r) a k = r := u2_s _ _ _ _
theorem qR_pR_n (M : Mem) {a k : Nat} (r : Nat) {b j : Nat} (h : ¬ (b = a ∧ j = k)) : qR (pR M a k r) b j = qR M b j := u2_n _ _ _ _ h
section GM2
variable {X : Cx} {Y : My} {P : List Frame → Array Value → State → State → Prop} {pc : Nat} {ls st : List Value} {cs ss : Nat} {M : Mem}
theorem g_fI {idx ci k a : Nat} {ty : FieldType} {fin w : Bool} {x : Int32} (d : decode (yC Y) pc = .ok (.getfield idx, 3)) (hf : FL (yN Y).cls idx ci k ty fin w) (hg : (decide (ci ≠ 20) && !ty.isReference) = true) (h : fI M a (10 + ci) k = some x) (kk : G X Y P (pc + 3) ls (.int x :: st) cs ss M) : G X Y P pc ls (.ref a :: st) cs ss M := by
  obtain ⟨e1, e2⟩ := fI_s h
  rw [Bool.and_eq_true, decide_eq_true_eq] at hg
  have hty : tyOf ci k = ty := by obtain ⟨_, _, _, _, _, _, h, _⟩ := hf; exact h
  refine g_get d hf hg.1 e1 ?_ kk
  unfold fv
  rw [hty, if_neg (by intro q; rw [q] at hg; exact absurd hg.2 (by decide)), e2]
  rfl
theorem g_fR {idx ci k a : Nat} {ty : FieldType} {fin w : Bool} {x : Nat} (d : decode (yC Y) pc = .ok (.getfield idx, 3)) (hf : FL (yN Y).cls idx ci k ty fin w) (hg : (decide (ci ≠ 20) && ty.isReference) = true) (h : fR M a (10 + ci) k = some x) (kk : G X Y P (pc + 3) ls (.ref x :: st) cs ss M) : G X Y P pc ls (.ref a :: st) cs ss M := by
  obtain ⟨e1, e2⟩ := fR_s h
  rw [Bool.and_eq_true, decide_eq_true_eq] at hg
  have hty : tyOf ci k = ty := by obtain ⟨_, _, _, _, _, _, h, _⟩ := hf; exact h
  refine g_get d hf hg.1 e1 ?_ kk
  unfold fv
  rw [hty, if_pos hg.2, e2]
  rfl
theorem g_sI {idx ci k a : Nat} {x : Int32} {M' : Mem} (d : decode (yC Y) pc = .ok (.putfield idx, 3)) (hf : FL (yN Y).cls idx ci k .int false true) (hg : ci ≠ 20) (h : sI M a (10 + ci) k x = some M') (kk : G X Y P (pc + 3) ls st cs ss M') : G X Y P pc ls (.int x :: .ref a :: st) cs ss M := by
  obtain ⟨e1, e2⟩ := sI_s h
  have hty : tyOf ci k = .int := by obtain ⟨_, _, _, _, _, _, h, _⟩ := hf; exact h
  subst e2
  refine g_put (M' := pI M a k x) d hf hg e1 (fun q => by cases q) rfl rfl rfl (fun _ => rfl) (fun b hb => ent_pI hb) ?_ ?_ kk
  · unfold fv
    rw [hty, if_neg (by decide), qI_pI_s]
    rfl
  · intro j hj
    unfold fv
    rw [show qR (pI M a k x) = qR M from rfl]
    by_cases q : (tyOf ci j).isReference = true
    · rw [if_pos q, if_pos q]
    · rw [if_neg q, if_neg q, qI_pI_n M x (fun z => hj z.2)]
theorem g_sIF {idx ci k a : Nat} {x : Int32} {M' : Mem} (d : decode (yC Y) pc = .ok (.putfield idx, 3)) (hf : FL (yN Y).cls idx ci k .int true true) (hg : ci ≠ 20) (hfin : (yN Y).name = "<init>" ∧ ∀ ref n ds host, Cond.fieldLinkNest (yN Y).cls idx ref n ds host ∉ nw) (h : sI M a (10 + ci) k x = some M') (kk : G X Y P (pc + 3) ls st cs ss M') : G X Y P pc ls (.int x :: .ref a :: st) cs ss M := by
  obtain ⟨e1, e2⟩ := sI_s h
  have hty : tyOf ci k = .int := by obtain ⟨_, _, _, _, _, _, h, _⟩ := hf; exact h
  subst e2
  refine g_put (M' := pI M a k x) d hf hg e1 (fun _ => hfin) rfl rfl rfl (fun _ => rfl) (fun b hb => ent_pI hb) ?_ ?_ kk
  · unfold fv
    rw [hty, if_neg (by decide), qI_pI_s]
    rfl
  · intro j hj
    unfold fv
    rw [show qR (pI M a k x) = qR M from rfl]
    by_cases q : (tyOf ci j).isReference = true
    · rw [if_pos q, if_pos q]
    · rw [if_neg q, if_neg q, qI_pI_n M x (fun z => hj z.2)]
theorem g_sB {idx ci k a : Nat} {x : Int32} {M' : Mem} (d : decode (yC Y) pc = .ok (.putfield idx, 3)) (hf : FL (yN Y).cls idx ci k .boolean false true) (hg : ci ≠ 20) (h : sB M a (10 + ci) k x = some M') (kk : G X Y P (pc + 3) ls st cs ss M') : G X Y P pc ls (.int x :: .ref a :: st) cs ss M := by
  obtain ⟨e1, e3, e2⟩ := sB_s h
  have hty : tyOf ci k = .boolean := by obtain ⟨_, _, _, _, _, _, h, _⟩ := hf; exact h
  subst e2
  have h9 : narrow .boolean (.int x) = .int x ∧ fits .boolean (.int x) = true := by
    rcases e3 with rfl | rfl <;> exact ⟨by decide, by decide⟩
  refine g_put (M' := pI M a k x) d hf hg e1 (fun q => by cases q) h9.1 h9.2 rfl (fun _ => rfl) (fun b hb => ent_pI hb) ?_ ?_ kk
  · unfold fv
    rw [hty, if_neg (by decide), qI_pI_s]
    rfl
  · intro j hj
    unfold fv
    rw [show qR (pI M a k x) = qR M from rfl]
    by_cases q : (tyOf ci j).isReference = true
    · rw [if_pos q, if_pos q]
    · rw [if_neg q, if_neg q, qI_pI_n M x (fun z => hj z.2)]
theorem ref_fits {ty : FieldType} (h : ty.isReference = true) (o : Option Nat) : narrow ty (va_rf o) = va_rf o ∧ fits ty (va_rf o) = true := by
  cases ty <;> first | (simp [FieldType.isReference] at h; done) | (cases o <;> exact ⟨rfl, rfl⟩)
theorem g_sR {idx ci k a r : Nat} {ty : FieldType} {fin : Bool} {M' : Mem} (d : decode (yC Y) pc = .ok (.putfield idx, 3)) (hf : FL (yN Y).cls idx ci k ty fin true) (hg : (decide (ci ≠ 20) && ty.isReference) = true) (hfin : fin = true → (yN Y).name = "<init>" ∧ ∀ ref n ds host, Cond.fieldLinkNest (yN Y).cls idx ref n ds host ∉ nw) (h : sR M a (10 + ci) k r = some M') (kk : G X Y P (pc + 3) ls st cs ss M') : G X Y P pc ls (.ref r :: .ref a :: st) cs ss M := by
  obtain ⟨e1, e2⟩ := sR_s h
  rw [Bool.and_eq_true, decide_eq_true_eq] at hg
  have hty : tyOf ci k = ty := by obtain ⟨_, _, _, _, _, _, h, _⟩ := hf; exact h
  subst e2
  refine g_put (M' := pR M a k r) d hf hg.1 e1 hfin (ref_fits hg.2 _).1 (ref_fits hg.2 _).2 rfl (fun _ => rfl) (fun b hb => ent_pR hb) ?_ ?_ kk
  · unfold fv
    rw [hty, if_pos hg.2, qR_pR_s]
    rfl
  · intro j hj
    unfold fv
    rw [show qI (pR M a k r) = qI M from rfl]
    by_cases q : (tyOf ci j).isReference = true
    · rw [if_pos q, if_pos q, qR_pR_n M r (fun z => hj z.2)]
    · rw [if_neg q, if_neg q]
end GM2
