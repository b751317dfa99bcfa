/-! the world that a memory stands for, and what holds throughout a frame -/
def cv (ad : Nat → Nat) : Value → Value
  | .ref a => .ref (ad a)
  | v => v
abbrev CS : Type := ClassId × ClassId × ClassId × ClassId
abbrev tysOf (cs : CS) : List (ClassId × FieldType) := [(cs.1, .int), (cs.2.1, .boolean), (cs.2.2.1, .object RX5), (cs.2.2.2, .array .int)]
def fld (ad : Nat → Nat) (R : Nat → Nat → Option Nat) (I : Nat → Nat → Int32) (o c k : Nat) : Value := bif isR c k then va_rf ((R o k).map ad) else .int (I o k)
def elm (ad : Nat → Nat) (cs : CS) (R : Nat → Nat → Option Nat) (I : Nat → Nat → Int32) (i : Nat) : va_E := match Kd i with
  | (10, n) => .inl (cs.1, n, .inl (I i))
  | (11, n) => .inl (cs.2.1, n, .inl (I i))
  | (12, n) => .inl (cs.2.2.1, n, .inr (.inr (.inr (.inr (fun j => (R i j).map ad)))))
  | (13, n) => .inl (cs.2.2.2, n, .inr (.inr (.inr (.inr (fun j => (R i j).map ad)))))
  | (c, _) => .inr (c, (List.range (nfs c)).map (fld ad R I i c))
def wld (ad : Nat → Nat) (cs : CS) (σ : Mem) : va_W := (List.range σ.1).map (fun i => (ad i, elm ad cs σ.2.2.1 σ.2.2.2 i))
section WLD
variable {ad : Nat → Nat} {cs : CS} {σ σ' : Mem} {R R' : Nat → Nat → Option Nat} {I I' : Nat → Nat → Int32} {i o n : Nat}
theorem wld_get (h : i < σ.1) : (wld ad cs σ)[i]? = some (ad i, elm ad cs σ.2.2.1 σ.2.2.2 i) := by
  simp [wld, h]
theorem wld_inv {q : Nat × va_E} (h : (wld ad cs σ)[i]? = some q) : i < σ.1 ∧ q = (ad i, elm ad cs σ.2.2.1 σ.2.2.2 i) := by
  have hi : i < σ.1 := by
    have := (List.getElem?_eq_some_iff.mp h).1
    simpa [wld] using this
  rw [wld_get hi] at h
  exact ⟨hi, (Option.some.inj h).symm⟩
theorem wld_set (h1 : σ'.1 = σ.1) (ho : o < σ.1) {e : va_E} (he : elm ad cs σ'.2.2.1 σ'.2.2.2 o = e) (hne : ∀ i, i ≠ o → elm ad cs σ'.2.2.1 σ'.2.2.2 i = elm ad cs σ.2.2.1 σ.2.2.2 i) : (wld ad cs σ).set o (ad o, e) = wld ad cs σ' := by
  apply List.ext_getElem?
  intro i
  rw [List.getElem?_set]
  by_cases hi : o = i
  · subst hi
    have hl : o < (wld ad cs σ).length := by simpa [wld] using ho
    rw [if_pos rfl, wld_get (by rw [h1]; exact ho), he]
    simp [hl]
  · rw [if_neg hi]
    by_cases h : i < σ.1
    · rw [wld_get h, wld_get (by rw [h1]; exact h), hne i (fun q => hi q.symm)]
    · simp [wld, h1, h]
theorem wld_app {e : va_E} (h1 : σ'.1 = σ.1 + 1) (he : elm ad cs σ'.2.2.1 σ'.2.2.2 σ.1 = e) (hne : ∀ i, i < σ.1 → elm ad cs σ'.2.2.1 σ'.2.2.2 i = elm ad cs σ.2.2.1 σ.2.2.2 i) : wld ad cs σ ++ [(ad σ.1, e)] = wld ad cs σ' := by
  unfold wld
  rw [h1, List.range_succ, List.map_append]
  refine congr (congrArg _ (List.map_congr_left fun i hi => ?_)) ?_
  · rw [hne i (List.mem_range.mp hi)]
  · simp [he]
theorem elm_cg (h1 : R' i = R i) (h2 : I' i = I i) : elm ad cs R' I' i = elm ad cs R I i := by
  have hf : ∀ c, fld ad R' I' i c = fld ad R I i c := fun c => by
    funext k
    unfold fld
    rw [h1, h2]
  unfold elm
  rw [h1, h2]
  simp only [hf]
theorem elm10 (h : Kd i = (10, n)) : elm ad cs R I i = .inl (cs.1, n, .inl (I i)) := by unfold elm; simp only [h]
theorem elm11 (h : Kd i = (11, n)) : elm ad cs R I i = .inl (cs.2.1, n, .inl (I i)) := by unfold elm; simp only [h]
theorem elm12 (h : Kd i = (12, n)) : elm ad cs R I i = .inl (cs.2.2.1, n, .inr (.inr (.inr (.inr (fun j => (R i j).map ad))))) := by unfold elm; simp only [h]
theorem elm13 (h : Kd i = (13, n)) : elm ad cs R I i = .inl (cs.2.2.2, n, .inr (.inr (.inr (.inr (fun j => (R i j).map ad))))) := by unfold elm; simp only [h]
theorem elmO {c : Nat} (h : (Kd i).1 = c) (hc : c < 8) : elm ad cs R I i = .inr (c, (List.range (nfs c)).map (fld ad R I i c)) := by
  unfold elm
  generalize Kd i = q at h
  obtain ⟨a, z⟩ := q
  dsimp only at h
  subst h
  match a, hc with
  | 0, _ => rfl
  | 1, _ => rfl
  | 2, _ => rfl
  | 3, _ => rfl
  | 4, _ => rfl
  | 5, _ => rfl
  | 6, _ => rfl
  | 7, _ => rfl
theorem upN_ne {α : Type} {f : Nat → Nat → α} {o k i : Nat} {v : α} (h : i ≠ o) : upN f o k v i = f i := by
  funext b
  unfold upN
  have : Nat.beq i o = false := by
    cases hb : Nat.beq i o with
    | false => rfl
    | true => exact absurd (Nat.eq_of_beq_eq_true hb) h
  rw [this]
  rfl
theorem upN_at {α : Type} {f : Nat → Nat → α} {o k : Nat} {v : α} (j : Nat) : upN f o k v o j = if j = k then v else f o j := by
  unfold upN
  rw [show Nat.beq o o = true from Nat.beq_refl o, Bool.true_and]
  by_cases h : j = k
  · subst h
    rw [show Nat.beq j j = true from Nat.beq_refl j, if_pos rfl]
    rfl
  · have : Nat.beq j k = false := by
      cases hb : Nat.beq j k with
      | false => rfl
      | true => exact absurd (Nat.eq_of_beq_eq_true hb) h
    rw [this, if_neg h]
    rfl
theorem map_set {α : Type} {f g : Nat → α} {N k : Nat} {v : α} (hk : g k = v) (hne : ∀ j, j ≠ k → g j = f j) : ((List.range N).map f).set k v = (List.range N).map g := by
  apply List.ext_getElem?
  intro i
  rw [List.getElem?_set]
  by_cases hi : k = i
  · subst hi
    by_cases h : k < N
    · simp [h, hk]
    · simp [h]
  · rw [if_neg hi]
    by_cases h : i < N
    · simp [h, hne i (fun q => hi q.symm)]
    · simp [h]
end WLD
/-! locals -/
def lvR (ad : Nat → Nat) (ls : Array Slot) (nL : Nat) (L : List Value) : Prop := L.length = nL ∧ ∃ l, lv_has ls nL l ∧ ∀ i, nth L i ≠ UU → (i, cv ad (nth L i)) ∈ l
theorem stL_len {L : List Value} {k : Nat} {v : Value} : (stL L k v).length = L.length := by
  induction L generalizing k with
  | nil => rfl
  | cons a l ih =>
    cases k with
    | zero => rfl
    | succ k => simp [stL, ih]
theorem nth_stL {L : List Value} {k i : Nat} {v : Value} : nth (stL L k v) i = if i = k ∧ k < L.length then v else nth L i := by
  induction L generalizing k i with
  | nil => simp [stL, nth]
  | cons a l ih =>
    cases k with
    | zero =>
      cases i with
      | zero => simp [stL, nth]
      | succ i => simp [stL, nth]
    | succ k =>
      cases i with
      | zero => simp [stL, nth]
      | succ i => simp [stL, nth, ih]
theorem cat_lg {ad : Nat → Nat} (v : Value) : (cv ad v).category = if isLg v then 2 else 1 := by
  cases v <;> rfl
theorem nthUU {L : List Value} {i : Nat} {v : Value} (h : nth L i = v) (hv : v ≠ UU) : nth L i ≠ UU := by rw [h]; exact hv
theorem lvR_ld {ad : Nat → Nat} {ls : Array Slot} {nL : Nat} {L : List Value} {k : Nat} {v : Value} (h : lvR ad ls nL L) (hk : nth L k = v) (hv : v ≠ UU) : ls[k]? = some (.val (cv ad v)) := by
  obtain ⟨-, l, hl, hm⟩ := h
  have := hl.2.2 _ (hm k (nthUU hk hv))
  rw [hk] at this
  exact this
theorem lvR_st {ad : Nat → Nat} {ls' : Array Slot} {nL : Nat} {L : List Value} {l : List (Nat × Value)} {k : Nat} {v : Value} (hL : L.length = nL) (hm : ∀ i, nth L i ≠ UU → (i, cv ad (nth L i)) ∈ l) (hok : okS L k = true)
    (h' : lv_has ls' nL ((k, cv ad v) :: l.filter (fun q => !(q.1 == k) && !(q.1 + 1 == k && q.2.category == 2)))) : lvR ad ls' nL (stL L k v) := by
  refine ⟨by rw [stL_len]; exact hL, _, h', fun i hi => ?_⟩
  rw [nth_stL] at hi ⊢
  unfold okS at hok
  rw [Bool.and_eq_true] at hok
  by_cases hik : i = k ∧ k < L.length
  · rw [if_pos hik, hik.1]
    exact List.mem_cons_self
  · rw [if_neg hik] at hi ⊢
    have hlt : k < L.length := by
      have := hok.1
      simpa [Nat.blt_eq] using this
    have hne : i ≠ k := fun q => hik ⟨q, hlt⟩
    refine List.mem_cons_of_mem _ (List.mem_filter.mpr ⟨hm i hi, ?_⟩)
    have h1 : (i == k) = false := by simpa using hne
    simp only [h1, Bool.not_false, Bool.true_and, Bool.not_eq_true']
    by_cases h2 : i + 1 = k
    · subst h2
      have h3 := hok.2
      simp only [Bool.not_eq_true'] at h3
      rw [cat_lg, h3]
      simp
    · have : (i + 1 == k) = false := by simpa using h2
      rw [this]
      rfl
theorem okS_lt {L : List Value} {k : Nat} (h : okS L k = true) : k < L.length := by
  unfold okS at h
  rw [Bool.and_eq_true] at h
  simpa [Nat.blt_eq] using h.1
/-! what a frame knows of its start -/
def WX (base wA : Nat) (D : va_G) (cs : CS) (U : State) : Prop := va_K D vwCl (tysOf cs) U ∧ va_Z RX6 "WIDER" "[I" (.ref wA) (fun q => base ≤ q) U U.heap ∧ va_T .int wA 6 (fun j => .int (wid j)) (fun q => base ≤ q) U U.heap ∧ (∀ w ∈ nestT, va_Nw w U) ∧ (Cond.arrayOver (.object RX5)).before #[] U = true ∧ (Cond.arrayOver (.array .int)).before #[] U = true
def FE (p : Program) (s : State) (m : MethodId) (args : Array Value) (meth : Method) (c : Code) (cc : ByteArray) (cls nL : Nat) (ini : Bool) (sc : Scr) (base wA : Nat) (ad : Nat → Nat) (D : va_G) (cs : CS) : Prop :=
  p.tables.exec = Jvm.exec ∧ c.code = cc ∧ c.maxLocals = nL ∧ s.vm.findClass (clsN cls) = some m.cls ∧ (∀ w ∈ lw_tbl, goodWord w = true → w.before args s = true) ∧ (ini = true → meth.name = "<init>") ∧ WX base wA D cs s ∧ (∀ i, i < 4500 → ad i = base + i) ∧ ad 5000 = wA ∧ (sc.1 = true → va_X (ad 5001) sc.2.1 sc.2.2 s s.heap ∧ ad 5001 < base) ∧ base ≤ s.heap.size
theorem beqT {a b : Nat} (h : Nat.beq a b = true) : a = b := Nat.eq_of_beq_eq_true h
theorem bltT {a b : Nat} (h : Nat.blt a b = true) : a < b := by simpa [Nat.blt_eq] using h
theorem bleT {a b : Nat} (h : Nat.ble a b = true) : a ≤ b := Nat.le_of_ble_eq_true h
theorem nestT_form : ∀ w ∈ nestT, ∃ a i x h, w = Cond.methodLinkNest a i x h := by
  unfold nestT
  exact fa_cons ⟨_, _, _, _, rfl⟩ (fa_cons ⟨_, _, _, _, rfl⟩ (fa_cons ⟨_, _, _, _, rfl⟩ (fa_cons ⟨_, _, _, _, rfl⟩ (fa_cons ⟨_, _, _, _, rfl⟩ (fa_cons ⟨_, _, _, _, rfl⟩ (fa_cons ⟨_, _, _, _, rfl⟩ (fa_cons ⟨_, _, _, _, rfl⟩ (fa_cons ⟨_, _, _, _, rfl⟩ (fa_cons ⟨_, _, _, _, rfl⟩ fa_nil)))))))))
theorem aoa_moved {u U : State} (hvm : u.vm.Alike U.vm) (h : (Cond.arrayOver (.array .int)).before #[] u = true) : (Cond.arrayOver (.array .int)).before #[] U = true := by
  unfold Cond.before Cond.holds at h ⊢
  simp only [Cond.value] at h ⊢
  have e1 : ∀ n, U.vm.findClass n = u.vm.findClass n := fun n => hvm.findClass n none
  have hb : U.vm.bare = u.vm.bare := by first | exact hvm.bare_eq | exact hvm.bare_eq.symm
  simp only [e1]
  have hidx : ∀ comp : ClassId, (U.vm.classes.findIdx? fun (x : Class) => match x.kind with | .array component _ => component == comp | _ => false) = (u.vm.classes.findIdx? fun (x : Class) => match x.kind with | .array component _ => component == comp | _ => false) := fun comp => by
    exact (va_idx_bare U.vm comp).symm.trans ((by rw [hb] : (U.vm.bare.classes.findIdx? fun (x : Class) => match x.kind with | .array component _ => component == comp | _ => false) = (u.vm.bare.classes.findIdx? fun (x : Class) => match x.kind with | .array component _ => component == comp | _ => false)).trans (va_idx_bare u.vm comp))
  have hcl : ∀ (c : Nat) (g : Kind → Bool), (U.vm.classes[c]?).map (fun k => g k.kind) = (u.vm.classes[c]?).map (fun k => g k.kind) := fun c g => by
    have hz : ∀ vm : Vm, (vm.classes[c]?).map (fun k => g k.kind) = (vm.bare.classes[c]?).map (fun k => g k.kind) := fun vm => by
      simp only [Vm.bare, Array.getElem?_map, Option.map_map]
      rfl
    rw [hz U.vm, hb, ← hz u.vm]
  cases hA : u.vm.findClass FieldType.int.array.toString with
  | none =>
    rw [hA] at h
    cases h
  | some comp =>
    rw [hA] at h
    refine Eq.trans ?_ h
    simp only [Option.bind_some]
    refine congrArg (fun o => o == some true) ?_
    refine Eq.trans (congrArg (fun o : Option Nat => o.bind (fun c => (U.vm.classes[c]?).map fun (k : Class) => match k.kind with | .array _ ty => decide (ty = FieldType.int.array) && decide (u.vm.findClass ("[" ++ FieldType.int.array.toString) = some c) | _ => false)) (hidx comp)) ?_
    refine congrArg (Option.bind _) (funext fun c => ?_)
    exact hcl c (fun kd => match kd with | .array _ ty => decide (ty = FieldType.int.array) && decide (u.vm.findClass ("[" ++ FieldType.int.array.toString) = some c) | _ => false)
theorem WX.moved {base wA : Nat} {D : va_G} {cs : CS} {s U : State} (hW : s.WarmedH U.vm) (hh : ∀ q : Nat, q < s.heap.size → ¬ base ≤ q → U.heap[q]? = s.heap[q]?) (h : WX base wA D cs s) : WX base wA D cs U := by
  obtain ⟨h1, h2, h3, h4, h5, h6⟩ := h
  refine ⟨va_K.moved hW.alike h1, (va_Z.moved hW.alike h2).kept hh, (va_T.moved hW.alike h3).kept hh, fun w hw => ?_, va_AO.moved hW.alike h5, ?_⟩
  · have hz := h4 w hw
    have hN := nestT_form w hw
    obtain ⟨a, i, x, z, rfl⟩ := hN
    exact va_Nw.warmM hW hz
  · exact aoa_moved hW.alike h6
