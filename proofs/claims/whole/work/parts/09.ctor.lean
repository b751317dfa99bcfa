/-! the constructors, run -/
def goF (call : Nat → List Value → Mem → Option (Option Value × Mem)) (mi cls : Nat) (ini : Bool) (ret : Option FieldType) (sc : Scr) : Nat → Nat → List Value → List Value → Mem → Option (Option Value × Mem)
  | 0, _, _, _, _ => none
  | n + 1, pc, L, st, σ => match asc (cdT mi) pc with
    | none => none
    | some q => match rtn ret q.1 st with
      | some r => some (r, σ)
      | none => match cal σ.1 cls q.1 st with
        | some (t, as, rest) => (match call t as σ with
          | some (v, σ1) => bif mle σ σ1 then goF call mi cls ini ret sc n (pc + 3) L (v.toList ++ rest) σ1 else none
          | none => none)
        | none => (match stp cls ini sc q.1 pc L st σ with
          | some (F, σ1) => bif mle σ σ1 then goF call mi cls ini ret sc n F.1 F.2.1 F.2.2 σ1 else none
          | none => none)
def evF : Nat → Nat → List Value → Mem → Option (Option Value × Mem)
  | 0, _, _, _ => none
  | d + 1, t, as, σ => match asc mT t with
    | none => none
    | some e => bif Nat.ble (entL as).length e.2.2.2.1 then goF (evF d) t e.1 e.2.2.2.2.2.2.2 e.2.2.2.2.1 sc0 700 0 (padL e.2.2.2.1 (entL as)) [] σ else none
theorem goF_ok {call : Nat → List Value → Mem → Option (Option Value × Mem)} {rel : Nat → List Value → Mem → Option Value → Mem → Prop} (hc : ∀ t as σ v σ1, call t as σ = some (v, σ1) → rel t as σ v σ1) {mi cls : Nat} {ini : Bool} {ret : Option FieldType} {sc : Scr} : ∀ (n pc : Nat) (L st : List Value) (σ : Mem) (r : Option Value) (σ' : Mem), goF call mi cls ini ret sc n pc L st σ = some (r, σ') → Go rel mi cls ini ret sc n pc L st σ r σ' := by
  intro n
  induction n with
  | zero =>
    intro pc L st σ r σ' h
    cases h
  | succ n ih =>
    intro pc L st σ r σ' h
    unfold goF at h
    split at h
    · cases h
    · rename_i q hq
      refine ⟨q, hq, ?_⟩
      split at h
      · rename_i r0 hr
        cases h
        exact Or.inr (Or.inl ⟨hr, rfl⟩)
      · split at h
        · rename_i t as rest hcal
          split at h
          · rename_i v σ1 hcl
            obtain ⟨hm, h⟩ := bif_inv h
            exact Or.inr (Or.inr ⟨t, as, rest, v, σ1, hcal, hc _ _ _ _ _ hcl, hm, ih _ _ _ _ _ _ h⟩)
          · cases h
        · split at h
          · rename_i F σ1 hs
            obtain ⟨hm, h⟩ := bif_inv h
            exact Or.inl ⟨F, σ1, hs, hm, ih _ _ _ _ _ _ h⟩
          · cases h
theorem evF_ok : ∀ (d t : Nat) (as : List Value) (σ : Mem) (v : Option Value) (σ1 : Mem), evF d t as σ = some (v, σ1) → Ev d t as σ v σ1 := by
  intro d
  induction d with
  | zero =>
    intro t as σ v σ1 h
    cases h
  | succ d ih =>
    intro t as σ v σ1 h
    unfold evF at h
    split at h
    · cases h
    · rename_i e he
      obtain ⟨hl, h⟩ := bif_inv h
      exact ⟨e, he, hl, 700, goF_ok ih _ _ _ _ _ _ _ h⟩
/-- the same world -/
def meqB (σ τ : Mem) : Bool := Nat.beq σ.1 τ.1 && Nat.beq σ.2.1 τ.2.1 && allB σ.1 (fun i => match Kd i with
  | (10, n) => allB n (fun j => decide (σ.2.2.2 i j = τ.2.2.2 i j))
  | (11, n) => allB n (fun j => decide (σ.2.2.2 i j = τ.2.2.2 i j))
  | (12, n) => allB n (fun j => decide (σ.2.2.1 i j = τ.2.2.1 i j))
  | (13, n) => allB n (fun j => decide (σ.2.2.1 i j = τ.2.2.1 i j))
  | (c, _) => Nat.blt c 8 && allB (nfs c) (fun j => bif isR c j then decide (σ.2.2.1 i j = τ.2.2.1 i j) else decide (σ.2.2.2 i j = τ.2.2.2 i j)))
theorem meq_P {ad : Nat → Nat} {cs : CS} {D : va_G} {σ τ : Mem} {H : Heap} (h : meqB σ τ = true) (hP : va_P D vwCl (wld ad cs σ) H) : va_P D vwCl (wld ad cs τ) H := by
  unfold meqB at h
  obtain ⟨h, h3⟩ := andT h
  obtain ⟨h1, h2⟩ := andT h
  have e1 := beqT h1
  intro i q hq
  obtain ⟨hi, rfl⟩ := wld_inv hq
  have hz := allB_at h3 i (by rw [e1]; exact hi)
  have hp := hP i _ (wld_get (by rw [e1]; exact hi))
  revert hz
  cases hk : Kd i with
  | mk k n =>
    split
    · rename_i n0 e
      cases e
      intro hz
      rw [elm10 hk] at hp ⊢
      have h9 : H[ad i]? = some (vp_cell cs.1 _) := hp
      show H[ad i]? = some (vp_cell cs.1 _)
      rw [h9, vp_cell_i, vp_cell_i]
      exact congrArg some (arrV_cg (fun j hj => by rw [of_decide_eq_true (allB_at hz j hj)]))
    · rename_i n0 e
      cases e
      intro hz
      rw [elm11 hk] at hp ⊢
      have h9 : H[ad i]? = some (vp_cell cs.2.1 _) := hp
      show H[ad i]? = some (vp_cell cs.2.1 _)
      rw [h9, vp_cell_i, vp_cell_i]
      exact congrArg some (arrV_cg (fun j hj => by rw [of_decide_eq_true (allB_at hz j hj)]))
    · rename_i n0 e
      cases e
      intro hz
      rw [elm12 hk] at hp ⊢
      have h9 : H[ad i]? = some (vp_cell cs.2.2.1 _) := hp
      show H[ad i]? = some (vp_cell cs.2.2.1 _)
      rw [h9, vp_cell_q, vp_cell_q]
      exact congrArg some (arrV_cg (fun j hj => by rw [of_decide_eq_true (allB_at hz j hj)]))
    · rename_i n0 e
      cases e
      intro hz
      rw [elm13 hk] at hp ⊢
      have h9 : H[ad i]? = some (vp_cell cs.2.2.2 _) := hp
      show H[ad i]? = some (vp_cell cs.2.2.2 _)
      rw [h9, vp_cell_q, vp_cell_q]
      exact congrArg some (arrV_cg (fun j hj => by rw [of_decide_eq_true (allB_at hz j hj)]))
    · rename_i c0 n0 _ _ _ _ e
      cases e
      intro hz
      obtain ⟨hc8, hz⟩ := andT hz
      have hc := bltT hc8
      have hk1 : (Kd i).1 = k := by rw [hk]
      rw [elmO hk1 hc] at hp ⊢
      have e2 : (List.range (nfs k)).map (fld ad σ.2.2.1 σ.2.2.2 i k) = (List.range (nfs k)).map (fld ad τ.2.2.1 τ.2.2.2 i k) := by
        refine List.map_congr_left (fun j hj => ?_)
        have hzj := allB_at hz j (List.mem_range.mp hj)
        unfold fld
        cases hr : isR k j with
        | true =>
          rw [hr] at hzj
          rw [of_decide_eq_true hzj]
          rfl
        | false =>
          rw [hr] at hzj
          rw [of_decide_eq_true hzj]
          rfl
      rw [← e2]
      exact hp
abbrev SLA : Nat := 2360
def memO : Mem := (0, 0, fun _ _ => none, fun _ _ => 0)
def mem1 : Mem := (1, 10, fun _ _ => none, fun _ _ => 0)
def RRA (o k : Nat) : Option Nat := bif Nat.blt o 271 then RR o k else none
def IIA (o k : Nat) : Int32 := bif Nat.blt o 271 then II0 o k else 0
def memA : Mem := (271, SLA, RRA, IIA)
def memB : Mem := (272, SLA + 20, RRA, IIA)
def mem0 : Mem := (NN, SS, RR, II0)
def chk (x : Option (Option Value × Mem)) (τ : Mem) : Bool := match x with
  | some (none, σ) => meqB σ τ
  | _ => false
theorem chk_ok {d t : Nat} {as : List Value} {σ τ : Mem} (h : chk (evF d t as σ) τ = true) : ∃ σ1, Ev d t as σ none σ1 ∧ meqB σ1 τ = true := by
  cases hx : evF d t as σ with
  | none =>
    rw [hx] at h
    cases h
  | some q =>
    obtain ⟨v, σ1⟩ := q
    cases v with
    | none =>
      rw [hx] at h
      exact ⟨σ1, evF_ok d t as σ none σ1 hx, h⟩
    | some v =>
      rw [hx] at h
      cases h
theorem ctorX_ok : chk (evF 5 79 [.ref 0] mem1) memA = true := by decide +kernel
theorem ctorM_ok : chk (evF 5 123 [.ref 271] memB) mem0 = true := by decide +kernel
