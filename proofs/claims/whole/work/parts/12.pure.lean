/-! runs over the laid-out memory: only the ints move -/
abbrev Pl : Type := Nat → Nat → Int32
abbrev mem (I : Pl) : Mem := (NN, SS, RR, I)
/-- a frame's method, class, what it returns, script -/
abbrev FC : Type := Nat × Nat × Option FieldType × Scr
def At (d : Nat) (fc : FC) (pc : Nat) (L st : List Value) (I : Pl) (r : Option Value) (I' : Pl) : Prop := ∃ n, Go (Ev d) fc.1 fc.2.1 false fc.2.2.1 fc.2.2.2 n pc L st (mem I) r (mem I')
def runK (fc : FC) : Nat → Nat → List Value → List Value → Mem → Option (Frm × Mem)
  | 0, pc, L, st, σ => some ((pc, L, st), σ)
  | k + 1, pc, L, st, σ => match asc (cdT fc.1) pc with
    | none => none
    | some q => match stp fc.2.1 false fc.2.2.2 q.1 pc L st σ with
      | none => none
      | some (F, σ1) => bif mle σ σ1 then runK fc k F.1 F.2.1 F.2.2 σ1 else none
theorem run_go_ {d : Nat} {fc : FC} {r : Option Value} {σ' : Mem} : ∀ (k pc : Nat) (L st : List Value) (σ : Mem) (F : Frm) (σ1 : Mem) (n : Nat), runK fc k pc L st σ = some (F, σ1) → Go (Ev d) fc.1 fc.2.1 false fc.2.2.1 fc.2.2.2 n F.1 F.2.1 F.2.2 σ1 r σ' → Go (Ev d) fc.1 fc.2.1 false fc.2.2.1 fc.2.2.2 (n + k) pc L st σ r σ' := by
  intro k
  induction k with
  | zero =>
    intro pc L st σ F σ1 n h g
    cases h
    exact g
  | succ k ih =>
    intro pc L st σ F σ1 n h g
    unfold runK at h
    split at h
    · cases h
    · rename_i q hq
      split at h
      · cases h
      · rename_i F2 σ2 hs
        obtain ⟨hm, h⟩ := bif_inv h
        exact ⟨q, hq, Or.inl ⟨F2, σ2, hs, hm, ih _ _ _ _ _ _ _ h g⟩⟩
theorem At.run {d : Nat} {fc : FC} {pc pc' : Nat} {L L' st st' : List Value} {I I1 I' : Pl} {r : Option Value} (k : Nat) (h : runK fc k pc L st (mem I) = some ((pc', L', st'), mem I1)) (g : At d fc pc' L' st' I1 r I') : At d fc pc L st I r I' := by
  obtain ⟨n, g⟩ := g
  exact ⟨n + k, run_go_ k pc L st (mem I) (pc', L', st') (mem I1) n h g⟩
theorem At.br {d : Nat} {fc : FC} {a b : Nat} {L st : List Value} {I I' : Pl} {r : Option Value} {c : Prop} [Decidable c] (h1 : c → At d fc a L st I r I') (h2 : ¬ c → At d fc b L st I r I') : At d fc (if c then a else b) L st I r I' := by
  by_cases h : c
  · rw [if_pos h]
    exact h1 h
  · rw [if_neg h]
    exact h2 h
theorem At.ret {d : Nat} {fc : FC} {pc : Nat} {L st : List Value} {I : Pl} {r : Option Value} {q : Instr × Nat} (hq : asc (cdT fc.1) pc = some q) (h : rtn fc.2.2.1 q.1 st = some r) : At d fc pc L st I r I := ⟨1, q, hq, Or.inr (Or.inl ⟨h, rfl⟩)⟩
theorem At.call {d : Nat} {fc : FC} {pc : Nat} {L st : List Value} {I I1 I' : Pl} {r v : Option Value} {q : Instr × Nat} {t : Nat} {as rest : List Value} (hq : asc (cdT fc.1) pc = some q) (hc : cal NN fc.2.1 q.1 st = some (t, as, rest)) (he : Ev d t as (mem I) v (mem I1)) (g : At d fc (pc + 3) L (v.toList ++ rest) I1 r I') : At d fc pc L st I r I' := by
  obtain ⟨n, g⟩ := g
  exact ⟨n + 1, q, hq, Or.inr (Or.inr ⟨t, as, rest, v, mem I1, hc, he, rfl, g⟩)⟩
theorem Ev.enter {d t : Nat} {as : List Value} {I I' : Pl} {r : Option Value} {e : MTy} (he : asc mT t = some e) (hl : Nat.ble (entL as).length e.2.2.2.1 = true) (hi : e.2.2.2.2.2.2.2 = false) (g : At d (t, e.1, e.2.2.2.2.1, sc0) 0 (padL e.2.2.2.1 (entL as)) [] I r I') : Ev (d + 1) t as (mem I) r (mem I') := by
  obtain ⟨n, g⟩ := g
  refine ⟨e, he, hl, n, ?_⟩
  rw [hi]
  exact g
/-- runs, then other words for the locals and the stack -/
theorem At.runE {d : Nat} {fc : FC} {pc pc' : Nat} {L L1 L' st st1 st' : List Value} {I I1 I' : Pl} {r : Option Value} (k : Nat) (h : runK fc k pc L st (mem I) = some ((pc', L1, st1), mem I1)) (hL : L1 = L') (hs : st1 = st') (g : At d fc pc' L' st' I1 r I') : At d fc pc L st I r I' := by
  subst hL
  subst hs
  exact At.run k h g
theorem At.cg {d : Nat} {fc : FC} {pc : Nat} {L L' st st' : List Value} {I I1 I' : Pl} {r : Option Value} (hL : L = L') (hs : st = st') (hI : I = I1) (g : At d fc pc L' st' I1 r I') : At d fc pc L st I r I' := by
  subst hL
  subst hs
  subst hI
  exact g
theorem At.stp1 {d : Nat} {fc : FC} {pc pc' : Nat} {L L' st st' : List Value} {I I1 I' : Pl} {r : Option Value} {q : Instr × Nat} (hq : asc (cdT fc.1) pc = some q) (h : stp fc.2.1 false fc.2.2.2 q.1 pc L st (mem I) = some ((pc', L', st'), mem I1)) (g : At d fc pc' L' st' I1 r I') : At d fc pc L st I r I' := by
  obtain ⟨n, g⟩ := g
  exact ⟨n + 1, q, hq, Or.inl ⟨_, _, h, rfl, g⟩⟩
theorem inN {j n : Nat} (h : j < n) (hn : n < 2 ^ 31) : inA (nI j) n := nI_in h hn
theorem clN_ {j : Nat} (h : j < 2 ^ 31) : (nI j).toNatClampNeg = j := nI_clamp h
theorem At.iald {d : Nat} {fc : FC} {pc : Nat} {L st : List Value} {I I' : Pl} {r : Option Value} {a n j : Nat} (hq : asc (cdT fc.1) pc = some (.iaload, 1)) (hK : Kd a = (10, n)) (ha : Nat.blt a NN = true) (hj : j < n) (hn : n < 2 ^ 31) (g : At d fc (pc + 1) L (.int (I a j) :: st) I r I') : At d fc pc L (.int (nI j) :: .ref a :: st) I r I' := by
  refine At.stp1 hq ?_ g
  dsimp only [stp, xIald]
  simp only [hK]
  rw [show Nat.blt a (mem I).1 = true from ha, cond_true, if_pos (inN hj hn), clN_ (by omega)]
theorem At.iast {d : Nat} {fc : FC} {pc : Nat} {L st : List Value} {I I' : Pl} {r : Option Value} {a n j : Nat} {x : Int32} (hq : asc (cdT fc.1) pc = some (.iastore, 1)) (hK : Kd a = (10, n)) (ha : Nat.blt a NN = true) (hj : j < n) (hn : n < 2 ^ 31) (g : At d fc (pc + 1) L st (upN I a j x) r I') : At d fc pc L (.int x :: .int (nI j) :: .ref a :: st) I r I' := by
  refine At.stp1 hq ?_ g
  dsimp only [stp, xIast]
  simp only [hK]
  rw [show Nat.blt a (mem I).1 = true from ha, cond_true, if_pos (inN hj hn), clN_ (by omega)]
theorem At.bald {d : Nat} {fc : FC} {pc : Nat} {L st : List Value} {I I' : Pl} {r : Option Value} {a n j : Nat} (hq : asc (cdT fc.1) pc = some (.baload, 1)) (hK : Kd a = (11, n)) (ha : Nat.blt a NN = true) (hj : j < n) (hn : n < 2 ^ 31) (g : At d fc (pc + 1) L (.int (I a j) :: st) I r I') : At d fc pc L (.int (nI j) :: .ref a :: st) I r I' := by
  refine At.stp1 hq ?_ g
  dsimp only [stp, xBald]
  simp only [hK]
  rw [show Nat.blt a (mem I).1 = true from ha, cond_true, if_pos (inN hj hn), clN_ (by omega)]
theorem At.bast {d : Nat} {fc : FC} {pc : Nat} {L st : List Value} {I I' : Pl} {r : Option Value} {a n j : Nat} {x : Int32} (hq : asc (cdT fc.1) pc = some (.bastore, 1)) (hK : Kd a = (11, n)) (ha : Nat.blt a NN = true) (hj : j < n) (hn : n < 2 ^ 31) (hx : x = 0 ∨ x = 1) (g : At d fc (pc + 1) L st (upN I a j x) r I') : At d fc pc L (.int x :: .int (nI j) :: .ref a :: st) I r I' := by
  refine At.stp1 hq ?_ g
  dsimp only [stp, xBast]
  simp only [hK]
  rw [show Nat.blt a (mem I).1 = true from ha, cond_true, if_pos (inN hj hn), if_pos hx, clN_ (by omega)]
theorem At.aald {d : Nat} {fc : FC} {pc : Nat} {L st : List Value} {I I' : Pl} {r : Option Value} {a n j k q : Nat} (hq : asc (cdT fc.1) pc = some (.aaload, 1)) (hK : Kd a = (k, n)) (hk : k = 12 ∨ k = 13) (ha : Nat.blt a NN = true) (hj : j < n) (hn : n < 2 ^ 31) (hR : RR a j = some q) (g : At d fc (pc + 1) L (.ref q :: st) I r I') : At d fc pc L (.int (nI j) :: .ref a :: st) I r I' := by
  refine At.stp1 hq ?_ g
  dsimp only [stp, xAald]
  rcases hk with rfl | rfl
  · simp only [hK]
    rw [show Nat.blt a (mem I).1 = true from ha, cond_true, if_pos (inN hj hn), clN_ (by omega), hR]
  · simp only [hK]
    rw [show Nat.blt a (mem I).1 = true from ha, cond_true, if_pos (inN hj hn), clN_ (by omega), hR]
theorem nI_n0 {b : Nat} (h0 : 0 < b) (hb : b < 2 ^ 31) : ¬ nI b = 0 := nI_ne0 h0 hb
theorem At.idiv {d : Nat} {fc : FC} {pc : Nat} {L st : List Value} {I I' : Pl} {r : Option Value} {a b : Nat} (hq : asc (cdT fc.1) pc = some (.idiv, 1)) (ha : a < 2 ^ 31) (h0 : 0 < b) (hb : b < 2 ^ 31) (g : At d fc (pc + 1) L (.int (nI (a / b)) :: st) I r I') : At d fc pc L (.int (nI b) :: .int (nI a) :: st) I r I' := by
  refine At.stp1 hq ?_ g
  dsimp only [stp]
  rw [if_neg (nI_n0 h0 hb), pk_div ha h0 hb]
theorem At.irem {d : Nat} {fc : FC} {pc : Nat} {L st : List Value} {I I' : Pl} {r : Option Value} {a b : Nat} (hq : asc (cdT fc.1) pc = some (.irem, 1)) (ha : a < 2 ^ 31) (h0 : 0 < b) (hb : b < 2 ^ 31) (g : At d fc (pc + 1) L (.int (nI (a % b)) :: st) I r I') : At d fc pc L (.int (nI b) :: .int (nI a) :: st) I r I' := by
  refine At.stp1 hq ?_ g
  dsimp only [stp]
  rw [if_neg (nI_n0 h0 hb), pk_rem ha h0 hb]
theorem At.copy {d : Nat} {fc : FC} {pc k : Nat} {L : List Value} {I I' : Pl} {r : Option Value} {a b sp dp n na nb : Nat} (hq : asc (cdT fc.1) pc = some (.invokestatic k, 3)) (hm : asc (mthT fc.2.1) k = some (901, false)) (hKa : Kd a = (10, na)) (hKb : Kd b = (10, nb)) (ha : Nat.blt a NN = true) (hb : Nat.blt b NN = true) (hs : sp + n ≤ na) (hd : dp + n ≤ nb) (h1 : na < 2 ^ 31) (h2 : nb < 2 ^ 31) (g : At d fc (pc + 3) L [] (cpy I a b sp dp n) r I') : At d fc pc L [.int (nI n), .int (nI dp), .ref b, .int (nI sp), .ref a] I r I' := by
  refine At.stp1 hq ?_ g
  dsimp only [stp, xCopy]
  rw [hm]
  dsimp only
  rw [show (Nat.beq 901 901 && !false) = true from rfl, cond_true]
  simp only [hKa, hKb]
  rw [show Nat.blt a (mem I).1 = true from ha, show Nat.blt b (mem I).1 = true from hb, Bool.and_self, cond_true, clN_ (show sp < 2 ^ 31 by omega), clN_ (show dp < 2 ^ 31 by omega), clN_ (show n < 2 ^ 31 by omega), if_pos ⟨nI_pos (by omega), nI_pos (by omega), nI_pos (by omega), hs, hd⟩]
/-- a field that is boolean -/
theorem At.putB {d : Nat} {fc : FC} {pc k o ci kf : Nat} {L st : List Value} {I I' : Pl} {r : Option Value} {x : Int32} (hq : asc (cdT fc.1) pc = some (.putfield k, 3)) (hf : asc (fldT fc.2.1) k = some (ci, kf)) (hK : (Nat.beq (Kd o).1 ci && Nat.blt o NN && !isR ci kf) = true) (hB : isB ci kf = true) (hx : x = 0 ∨ x = 1) (g : At d fc (pc + 3) L st (upN I o kf x) r I') : At d fc pc L (.int x :: .ref o :: st) I r I' := by
  refine At.stp1 hq ?_ g
  dsimp only [stp, xPut]
  rw [hf]
  dsimp only
  rw [show (Nat.beq (Kd o).1 ci && Nat.blt o (mem I).1 && !isR ci kf) = true from hK, cond_true, hB, cond_true, if_pos hx]
/-- what a question answers -/
def b2i (c : Prop) [Decidable c] : Int32 := if c then 1 else 0
theorem b2iT {c : Prop} [Decidable c] (h : c) : b2i c = 1 := if_pos h
theorem b2iF {c : Prop} [Decidable c] (h : ¬ c) : b2i c = 0 := if_neg h
/-- a call that answers a question: both answers -/
theorem At.callB {d : Nat} {fc : FC} {pc : Nat} {L st : List Value} {I I1 I' : Pl} {r : Option Value} {q : Instr × Nat} {t : Nat} {as rest : List Value} {c : Prop} [Decidable c] (hq : asc (cdT fc.1) pc = some q) (hc : cal NN fc.2.1 q.1 st = some (t, as, rest)) (he : Ev d t as (mem I) (some (.int (b2i c))) (mem I1)) (g1 : c → At d fc (pc + 3) L (.int 1 :: rest) I1 r I') (g2 : ¬ c → At d fc (pc + 3) L (.int 0 :: rest) I1 r I') : At d fc pc L st I r I' := by
  by_cases h : c
  · rw [b2iT h] at he
    exact At.call hq hc he (g1 h)
  · rw [b2iF h] at he
    exact At.call hq hc he (g2 h)
theorem At.retE {d : Nat} {fc : FC} {pc : Nat} {L st : List Value} {I I1 : Pl} {r r1 : Option Value} {q : Instr × Nat} (hq : asc (cdT fc.1) pc = some q) (h : rtn fc.2.2.1 q.1 st = some r1) (hr : r1 = r) (hI : I = I1) : At d fc pc L st I r I1 := by
  subst hr
  subst hI
  exact At.ret hq h
/-! order of numbers -/
theorem inA_iff {x : Int32} {n : Nat} : inA x n ↔ 0 ≤ x.toInt ∧ x.toInt < n := vp_in_iff
theorem inA_of {x : Int32} {n : Nat} (h : inA x n) (hn : n < 2 ^ 31) : ∃ j : Nat, j < n ∧ x = nI j := vp_in_of h hn
theorem lt_iff_ {x y : Int32} : x < y ↔ x.toInt < y.toInt := Int32.lt_iff_toInt_lt
theorem le_iff_ {x y : Int32} : x ≤ y ↔ x.toInt ≤ y.toInt := Int32.le_iff_toInt_le
theorem eq_iff_ {x y : Int32} : x = y ↔ x.toInt = y.toInt := Int32.toInt_inj.symm
theorem nI_and (a b : Nat) : nI a &&& nI b = nI (a &&& b) := by
  unfold nI
  apply Int32.toBitVec_inj.mp
  simp [BitVec.ofNat_and]
theorem nI_or (a b : Nat) : nI a ||| nI b = nI (a ||| b) := by
  unfold nI
  apply Int32.toBitVec_inj.mp
  simp [BitVec.ofNat_or]
/-! the same with a promise on the end -/
def WP (d : Nat) (fc : FC) (pc : Nat) (L st : List Value) (I : Pl) (Q : Option Value → Pl → Prop) : Prop := ∃ r I', At d fc pc L st I r I' ∧ Q r I'
def EvX (d t : Nat) (as : List Value) (I : Pl) (Q : Option Value → Pl → Prop) : Prop := ∃ r I', Ev d t as (mem I) r (mem I') ∧ Q r I'
section WPS
variable {d : Nat} {fc : FC} {pc pc' : Nat} {L L' st st' rest : List Value} {I I1 : Pl} {Q : Option Value → Pl → Prop} {q : Instr × Nat} {a b n j k t sp dp na nb o ci kf : Nat} {x : Int32} {as : List Value} {v : Option Value}
theorem WP.run (k : Nat) (h : runK fc k pc L st (mem I) = some ((pc', L', st'), mem I1)) (g : WP d fc pc' L' st' I1 Q) : WP d fc pc L st I Q := by
  obtain ⟨r, I', g, hq⟩ := g
  exact ⟨r, I', At.run k h g, hq⟩
theorem WP.cg (hL : L = L') (hs : st = st') (hI : I = I1) (g : WP d fc pc L' st' I1 Q) : WP d fc pc L st I Q := by
  subst hL
  subst hs
  subst hI
  exact g
theorem WP.br {c : Prop} [Decidable c] (h1 : c → WP d fc a L st I Q) (h2 : ¬ c → WP d fc b L st I Q) : WP d fc (if c then a else b) L st I Q := by
  by_cases h : c
  · rw [if_pos h]
    exact h1 h
  · rw [if_neg h]
    exact h2 h
theorem WP.brT {c : Prop} [Decidable c] (h : c) (g : WP d fc a L st I Q) : WP d fc (if c then a else b) L st I Q := by
  rw [if_pos h]
  exact g
theorem WP.brF {c : Prop} [Decidable c] (h : ¬ c) (g : WP d fc b L st I Q) : WP d fc (if c then a else b) L st I Q := by
  rw [if_neg h]
  exact g
theorem WP.ret (hq : asc (cdT fc.1) pc = some q) (h : rtn fc.2.2.1 q.1 st = some v) (hQ : Q v I) : WP d fc pc L st I Q := ⟨v, I, At.ret hq h, hQ⟩
theorem WP.iald (hq : asc (cdT fc.1) pc = some (.iaload, 1)) (hK : Kd a = (10, n)) (ha : Nat.blt a NN = true) (hj : j < n) (hn : n < 2 ^ 31) (g : WP d fc (pc + 1) L (.int (I a j) :: st) I Q) : WP d fc pc L (.int (nI j) :: .ref a :: st) I Q := by
  obtain ⟨r, I', g, hQ⟩ := g
  exact ⟨r, I', At.iald hq hK ha hj hn g, hQ⟩
theorem WP.iast (hq : asc (cdT fc.1) pc = some (.iastore, 1)) (hK : Kd a = (10, n)) (ha : Nat.blt a NN = true) (hj : j < n) (hn : n < 2 ^ 31) (g : WP d fc (pc + 1) L st (upN I a j x) Q) : WP d fc pc L (.int x :: .int (nI j) :: .ref a :: st) I Q := by
  obtain ⟨r, I', g, hQ⟩ := g
  exact ⟨r, I', At.iast hq hK ha hj hn g, hQ⟩
theorem WP.bald (hq : asc (cdT fc.1) pc = some (.baload, 1)) (hK : Kd a = (11, n)) (ha : Nat.blt a NN = true) (hj : j < n) (hn : n < 2 ^ 31) (g : WP d fc (pc + 1) L (.int (I a j) :: st) I Q) : WP d fc pc L (.int (nI j) :: .ref a :: st) I Q := by
  obtain ⟨r, I', g, hQ⟩ := g
  exact ⟨r, I', At.bald hq hK ha hj hn g, hQ⟩
theorem WP.bast (hq : asc (cdT fc.1) pc = some (.bastore, 1)) (hK : Kd a = (11, n)) (ha : Nat.blt a NN = true) (hj : j < n) (hn : n < 2 ^ 31) (hx : x = 0 ∨ x = 1) (g : WP d fc (pc + 1) L st (upN I a j x) Q) : WP d fc pc L (.int x :: .int (nI j) :: .ref a :: st) I Q := by
  obtain ⟨r, I', g, hQ⟩ := g
  exact ⟨r, I', At.bast hq hK ha hj hn hx g, hQ⟩
theorem WP.aald {z : Nat} (hq : asc (cdT fc.1) pc = some (.aaload, 1)) (hK : Kd a = (k, n)) (hk : k = 12 ∨ k = 13) (ha : Nat.blt a NN = true) (hj : j < n) (hn : n < 2 ^ 31) (hR : RR a j = some z) (g : WP d fc (pc + 1) L (.ref z :: st) I Q) : WP d fc pc L (.int (nI j) :: .ref a :: st) I Q := by
  obtain ⟨r, I', g, hQ⟩ := g
  exact ⟨r, I', At.aald hq hK hk ha hj hn hR g, hQ⟩
theorem WP.idiv (hq : asc (cdT fc.1) pc = some (.idiv, 1)) (ha : a < 2 ^ 31) (h0 : 0 < b) (hb : b < 2 ^ 31) (g : WP d fc (pc + 1) L (.int (nI (a / b)) :: st) I Q) : WP d fc pc L (.int (nI b) :: .int (nI a) :: st) I Q := by
  obtain ⟨r, I', g, hQ⟩ := g
  exact ⟨r, I', At.idiv hq ha h0 hb g, hQ⟩
theorem WP.irem (hq : asc (cdT fc.1) pc = some (.irem, 1)) (ha : a < 2 ^ 31) (h0 : 0 < b) (hb : b < 2 ^ 31) (g : WP d fc (pc + 1) L (.int (nI (a % b)) :: st) I Q) : WP d fc pc L (.int (nI b) :: .int (nI a) :: st) I Q := by
  obtain ⟨r, I', g, hQ⟩ := g
  exact ⟨r, I', At.irem hq ha h0 hb g, hQ⟩
theorem WP.copy (hq : asc (cdT fc.1) pc = some (.invokestatic k, 3)) (hm : asc (mthT fc.2.1) k = some (901, false)) (hKa : Kd a = (10, na)) (hKb : Kd b = (10, nb)) (ha : Nat.blt a NN = true) (hb : Nat.blt b NN = true) (hs : sp + n ≤ na) (hd : dp + n ≤ nb) (h1 : na < 2 ^ 31) (h2 : nb < 2 ^ 31) (g : WP d fc (pc + 3) L [] (cpy I a b sp dp n) Q) : WP d fc pc L [.int (nI n), .int (nI dp), .ref b, .int (nI sp), .ref a] I Q := by
  obtain ⟨r, I', g, hQ⟩ := g
  exact ⟨r, I', At.copy hq hm hKa hKb ha hb hs hd h1 h2 g, hQ⟩
theorem WP.putB (hq : asc (cdT fc.1) pc = some (.putfield k, 3)) (hf : asc (fldT fc.2.1) k = some (ci, kf)) (hK : (Nat.beq (Kd o).1 ci && Nat.blt o NN && !isR ci kf) = true) (hB : isB ci kf = true) (hx : x = 0 ∨ x = 1) (g : WP d fc (pc + 3) L st (upN I o kf x) Q) : WP d fc pc L (.int x :: .ref o :: st) I Q := by
  obtain ⟨r, I', g, hQ⟩ := g
  exact ⟨r, I', At.putB hq hf hK hB hx g, hQ⟩
theorem WP.callV (hq : asc (cdT fc.1) pc = some q) (hc : cal NN fc.2.1 q.1 st = some (t, as, rest)) (he : Ev d t as (mem I) v (mem I1)) (g : WP d fc (pc + 3) L (v.toList ++ rest) I1 Q) : WP d fc pc L st I Q := by
  obtain ⟨r, I', g, hQ⟩ := g
  exact ⟨r, I', At.call hq hc he g, hQ⟩
theorem WP.callX {Q1 : Option Value → Pl → Prop} (hq : asc (cdT fc.1) pc = some q) (hc : cal NN fc.2.1 q.1 st = some (t, as, rest)) (he : EvX d t as I Q1) (g : ∀ (v : Option Value) (J : Pl), Q1 v J → WP d fc (pc + 3) L (v.toList ++ rest) J Q) : WP d fc pc L st I Q := by
  obtain ⟨v, J, he, h1⟩ := he
  exact WP.callV hq hc he (g v J h1)
theorem WP.callB {c : Prop} [Decidable c] (hq : asc (cdT fc.1) pc = some q) (hc : cal NN fc.2.1 q.1 st = some (t, as, rest)) (he : Ev d t as (mem I) (some (.int (b2i c))) (mem I1)) (g1 : c → WP d fc (pc + 3) L (.int (nI 1) :: rest) I1 Q) (g2 : ¬ c → WP d fc (pc + 3) L (.int (nI 0) :: rest) I1 Q) : WP d fc pc L st I Q := by
  by_cases h : c
  · rw [b2iT h] at he
    exact WP.callV hq hc he (g1 h)
  · rw [b2iF h] at he
    exact WP.callV hq hc he (g2 h)
theorem EvX.enter {e : MTy} {I : Pl} (he : asc mT t = some e) (hl : Nat.ble (entL as).length e.2.2.2.1 = true) (hi : e.2.2.2.2.2.2.2 = false) (g : WP d (t, e.1, e.2.2.2.2.1, sc0) 0 (padL e.2.2.2.1 (entL as)) [] I Q) : EvX (d + 1) t as I Q := by
  obtain ⟨r, I', g, hQ⟩ := g
  exact ⟨r, I', Ev.enter he hl hi g, hQ⟩
/-- a method that only reads -/
theorem Ev.only {r : Option Value} (h : EvX d t as I (fun v J => v = r ∧ J = I1)) : Ev d t as (mem I) r (mem I1) := by
  obtain ⟨v, J, h, rfl, rfl⟩ := h
  exact h
end WPS
theorem nI_eq_ {a b : Nat} (ha : a < 2 ^ 31) (hb : b < 2 ^ 31) (h : nI a = nI b) : a = b := (nI_eq ha hb).mp h
theorem nI_lt_ {a b : Nat} (ha : a < 2 ^ 31) (hb : b < 2 ^ 31) (h : nI a < nI b) : a < b := (nI_ltI ha hb).mp h
theorem nI_le_ {a b : Nat} (ha : a < 2 ^ 31) (hb : b < 2 ^ 31) (h : nI a ≤ nI b) : a ≤ b := (nI_leI ha hb).mp h
theorem nI_eq_r {a b : Nat} (h : a = b) : nI a = nI b := by rw [h]
