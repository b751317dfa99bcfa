/-! steps that make objects -/
section MAKE
variable {p : Program} {l : Launch} {e : Env} {R : Room} {s : State} {m : MethodId} {args : Array Value} {below : List Frame} {meth : Method} {c : Code} {H : Heap} {locs : List Loc} {cells slots : Nat} {Q : State → Prop}
variable {cc : ByteArray} {cls nL : Nat} {ini : Bool} {sc : Scr} {base wA : Nat} {ad : Nat → Nat} {D : va_G} {cs : CS} {pc : Nat} {ls : Array Slot} {L st : List Value} {σ σ1 : Mem} {F : Frm} {len k : Nat}
theorem W_size {g : JFrame} (h : H.size ≤ s.heap.size + cells → W p l e R s m args below meth c H locs cells slots Q g) : W p l e R s m args below meth c H locs cells slots Q g := fun T hT X => h (by rw [← hT]; exact X.heapSize) T hT X
theorem wld_len : (wld ad cs σ).length = σ.1 := by simp [wld]
theorem new_addr {q : Nat} {x : va_E} {H1 : Heap} (had : ∀ i, i < 4500 → ad i = base + i) (hσ : σ.1 ≤ 4400) (hP1 : va_P D vwCl (wld ad cs σ ++ [(q, x)]) H1) (hD1 : va_D (fun q => base ≤ q) (wld ad cs σ ++ [(q, x)])) (hz : H1.size ≤ base + σ.1 + 1) : q = ad σ.1 := by
  have hn : (wld ad cs σ ++ [(q, x)])[σ.1]? = some (q, x) := by
    rw [List.getElem?_append_right (by rw [wld_len]; exact Nat.le_refl _), wld_len]
    simp
  have h1 : q < H1.size := (hP1 _ _ hn).lt
  have h2 : base ≤ q := hD1.2 _ _ hn
  rw [had σ.1 (by omega)]
  by_cases h3 : q < base + σ.1
  · exfalso
    have hi : q - base < σ.1 := by omega
    have ha : (wld ad cs σ ++ [(q, x)])[q - base]? = some (ad (q - base), elm ad cs σ.2.2.1 σ.2.2.2 (q - base)) := by
      rw [List.getElem?_append_left (by rw [wld_len]; exact hi), wld_get hi]
    have := hD1.1 _ _ _ _ ha hn (by show ad (q - base) = q; rw [had _ (by omega)]; omega)
    omega
  · omega
theorem beqF {a b : Nat} (h : a ≠ b) : Nat.beq a b = false := by
  cases hb : Nat.beq a b with
  | false => rfl
  | true => exact absurd (Nat.eq_of_beq_eq_true hb) h
theorem allB_at {n : Nat} {f : Nat → Bool} (h : allB n f = true) : ∀ j, j < n → f j = true := by
  induction n with
  | zero =>
    intro j hj
    omega
  | succ n ih =>
    obtain ⟨h1, h2⟩ := andT h
    intro j hj
    by_cases e : j = n
    · subst e
      exact h1
    · exact ih h2 j (by omega)
theorem arrV_cg {c0 : ClassId} {N : Nat} {f g : Nat → Value} (h : ∀ j, j < N → f j = g j) : arrV c0 N f = arrV c0 N g := by
  unfold arrV
  have : (fun j : Fin N => f j.val) = fun j : Fin N => g j.val := funext fun j => h j.val j.isLt
  rw [this]
theorem zI_cell {f : Nat → Nat → Int32} {o N : Nat} (h : zI f o N = true) (c0 : ClassId) : vp_cell c0 (N, .inl (f o)) = arrV c0 N (fun _ => .int 0) := by
  rw [vp_cell_i]
  refine arrV_cg (fun j hj => ?_)
  rw [of_decide_eq_true (allB_at h j hj)]
theorem zR_none {f : Nat → Nat → Option Nat} {o N j : Nat} (h : zR f o N = true) (hj : j < N) : f o j = none := by
  have := allB_at h j hj
  cases hf : f o j with
  | none => rfl
  | some v =>
    rw [hf] at this
    cases this
theorem clN_lt {ci : Nat} (h : ci < 8) : clN ci = clsN ci := by
  unfold clN
  rw [beqF (by omega)]
  rfl
theorem fld_new {ci o : Nat} {R0 : Nat → Nat → Option Nat} {I : Nat → Nat → Int32} (hci : ci < 8) (hz : zO R0 I o ci = true) : ∀ j, j < nfs ci → defaultValue (tyXs ci j) = vp_V ((List.range (nfs ci)).map (fld ad R0 I o ci)) j := by
  intro j hj
  have e1 : vp_V ((List.range (nfs ci)).map (fld ad R0 I o ci)) j = fld ad R0 I o ci j := by simp [vp_V, hj]
  rw [e1]
  have ht := cty ci j (fOkT ci hci j hj)
  have hzj := allB_at hz j hj
  unfold fld
  cases hr : isR ci j with
  | true =>
    rw [hr] at hzj
    have hn : R0 o j = none := by
      cases hf : R0 o j with
      | none => rfl
      | some v =>
        rw [hf] at hzj
        cases hzj
    rw [hn]
    obtain ⟨-, -, h | h⟩ := ht.1 hr <;> obtain ⟨z, h⟩ := h <;> rw [h] <;> rfl
  | false =>
    rw [hr] at hzj
    rw [of_decide_eq_true hzj]
    cases hb : isB ci j with
    | true =>
      rw [(ht.2 hr).2.1 hb]
      rfl
    | false =>
      rw [(ht.2 hr).2.2 hb]
      rfl
theorem FE.hA (hF : FE p s m args meth c cc cls nL ini sc base wA ad D cs) : ∀ q : Nat, s.heap.size ≤ q → base ≤ q := fun _ h => Nat.le_trans hF.2.2.2.2.2.2.2.2.2.2 h
theorem so_new (hF : FE p s m args meth c cc cls nL ini sc base wA ad D cs) (hσ : σ.1 ≤ 4400) (hq : decode cc pc = .ok (.new k, 3)) (hP : va_P D vwCl (wld ad cs σ) H) (hS : va_S (fun q => base ≤ q) s.heap H locs) (hl : lvR ad ls nL L) (kk : KK p l e R s m args below meth c cells slots Q nL base ad D cs σ σ1 F) (hsz : s.heap.size + cells = base + σ.1) (hc : cells + (σ1.1 - σ.1) ≤ R.cells) (hs : slots + (σ1.2.1 - σ.2.1) ≤ R.slots) (h : xNew cls k pc L st σ = some (F, σ1)) : W p l e R s m args below meth c H locs cells slots Q (F0 m pc ls (st.map (cv ad))) := by
  unfold xNew at h
  split at h
  · rename_i ci ec
    obtain ⟨hb, h⟩ := bif_inv h
    cases h
    obtain ⟨hb, hzo⟩ := andT hb
    obtain ⟨hb, hb3⟩ := andT hb
    obtain ⟨hb1, hb2⟩ := andT hb
    have hci : ci < 8 := bltT hb1
    have hKd := beqT hb2
    have hn := bltT hb3
    have hlk : Cond.classLink (clsN cls) k (clsN ci) ∈ lw_tbl := by
      have := clT_in cls _ (asc_mem ec)
      rw [← clN_lt hci]
      exact this
    have e1 : σ.1 + 1 - σ.1 = 1 := by omega
    have e2 : σ.2.1 + nfs ci - σ.2.1 = nfs ci := by omega
    dsimp only at hc hs
    rw [e1] at hc
    rw [e2] at hs
    refine va_new (H0 := s.heap) (A := fun q => base ≤ q) hF.1 hF.2.1 hF.ts (ts_lay hci) (tyXs ci) (tyT ci hci) hF.2.2.2.1 (hF.w hlk goodCL) (hF.w (insT ci hci).1 goodIS) (hF.w (insT ci hci).2 goodIN) hF.2.2.2.2.2.2.1.1 hP (hF.dd hσ) hS hF.hA (vwT ci hci) (fs := (List.range (nfs ci)).map (fld ad σ.2.2.1 σ.2.2.2 σ.1 ci)) (fld_new hci hzo) hc hs hq (fun q H1 hP1 hD1 hS1 => ?_)
    refine W_size (fun hz => ?_)
    have eq := new_addr hF.2.2.2.2.2.2.2.1 hσ hP1 hD1 (by omega)
    subst eq
    have E := wld_app (ad := ad) (cs := cs) (σ := σ) (σ' := (σ.1 + 1, σ.2.1 + nfs ci, σ.2.2.1, σ.2.2.2)) (e := .inr (ci, (List.range (nfs ci)).map (fld ad σ.2.2.1 σ.2.2.2 σ.1 ci))) rfl (elmO hKd hci) (fun i hi => rfl)
    have K := kk H1 locs ls (by rw [← E]; exact hP1) hS1 hl
    dsimp only at K
    rw [e1, e2] at K
    exact K
  · cases h
theorem so_newa0 {a0 : vp_A} {e0 : va_E} {N0 : Nat} {q : Nat} {H1 : Heap} (hF : FE p s m args meth c cc cls nL ini sc base wA ad D cs) (hσ : σ.1 ≤ 4400) (hl : lvR ad ls nL L) (hsz : s.heap.size + cells = base + σ.1) {v : List Value}
    (kk : KK p l e R s m args below meth c cells slots Q nL base ad D cs σ (σ.1 + 1, σ.2.1 + N0, σ.2.2.1, σ.2.2.2) (pc, L, .ref σ.1 :: st)) (he : elm ad cs σ.2.2.1 σ.2.2.2 σ.1 = e0)
    (hP1 : va_P D vwCl (wld ad cs σ ++ [(q, e0)]) H1) (hD1 : va_D (fun q => base ≤ q) (wld ad cs σ ++ [(q, e0)])) (hS1 : va_S (fun q => base ≤ q) s.heap H1 locs) : W p l e R s m args below meth c H1 locs (cells + 1) (slots + N0) Q (F0 m pc ls (.ref q :: st.map (cv ad))) := by
  refine W_size (fun hz => ?_)
  have eq := new_addr hF.2.2.2.2.2.2.2.1 hσ hP1 hD1 (by omega)
  subst eq
  have E := wld_app (ad := ad) (cs := cs) (σ := σ) (σ' := (σ.1 + 1, σ.2.1 + N0, σ.2.2.1, σ.2.2.2)) (e := e0) rfl he (fun i hi => rfl)
  have K := kk H1 locs ls (by rw [← E]; exact hP1) hS1 hl
  dsimp only at K
  rw [show σ.1 + 1 - σ.1 = 1 by omega, show σ.2.1 + N0 - σ.2.1 = N0 by omega] at K
  exact K
theorem xNewa_inv {kd : Nat} (h : xNewa kd len pc L st σ = some (F, σ1)) : ∃ c0 r, st = .int c0 :: r ∧ 0 ≤ c0 ∧ Kd σ.1 = (kd, c0.toNatClampNeg) ∧ σ.1 < 4000 ∧ c0.toNatClampNeg < 10000 ∧ (bif Nat.beq kd 12 then zR σ.2.2.1 σ.1 c0.toNatClampNeg else zI σ.2.2.2 σ.1 c0.toNatClampNeg) = true ∧ F = (pc + len, L, .ref σ.1 :: r) ∧ σ1 = (σ.1 + 1, σ.2.1 + c0.toNatClampNeg, σ.2.2.1, σ.2.2.2) := by
  unfold xNewa at h
  split at h
  · rename_i c0 r
    obtain ⟨h0, h⟩ := ite_inv h
    obtain ⟨hb, h⟩ := bif_inv h
    cases h
    obtain ⟨hb, hb5⟩ := andT hb
    obtain ⟨hb, hb4⟩ := andT hb
    obtain ⟨hb, hb3⟩ := andT hb
    obtain ⟨hb1, hb2⟩ := andT hb
    exact ⟨c0, r, rfl, h0, Prod.ext (beqT hb1) (beqT hb2), bltT hb3, bltT hb4, hb5, rfl, rfl⟩
  · cases h
theorem nneg {x : Int32} (h : 0 ≤ x) : ¬ x < 0 := by
  rw [Int32.le_iff_toInt_le] at h
  rw [Int32.lt_iff_toInt_lt]
  omega
theorem so_newarray (ty : FieldType) (kd t0 : Nat) (cA0 : ClassId) (hcase : (ty = .int ∧ kd = 10 ∧ t0 = 0 ∧ cA0 = cs.1) ∨ (ty = .boolean ∧ kd = 11 ∧ t0 = 1 ∧ cA0 = cs.2.1)) {atype : ArrayType} (hty : newarray.typeOf atype = ty) (hF : FE p s m args meth c cc cls nL ini sc base wA ad D cs) (hσ : σ.1 ≤ 4400) (hq : decode cc pc = .ok (.newarray atype, 2)) (hP : va_P D vwCl (wld ad cs σ) H) (hS : va_S (fun q => base ≤ q) s.heap H locs) (hl : lvR ad ls nL L) (kk : KK p l e R s m args below meth c cells slots Q nL base ad D cs σ σ1 F) (hsz : s.heap.size + cells = base + σ.1) (hc : cells + (σ1.1 - σ.1) ≤ R.cells) (hs : slots + (σ1.2.1 - σ.2.1) ≤ R.slots) (h : xNewa kd 2 pc L st σ = some (F, σ1)) : W p l e R s m args below meth c H locs cells slots Q (F0 m pc ls (st.map (cv ad))) := by
  obtain ⟨c0, r, rfl, h0, hK, hn, hlen, hzz, rfl, rfl⟩ := xNewa_inv h
  dsimp only at hc hs
  rw [show σ.1 + 1 - σ.1 = 1 by omega] at hc
  rw [show σ.2.1 + c0.toNatClampNeg - σ.2.1 = c0.toNatClampNeg by omega] at hs
  have hKs := hF.2.2.2.2.2.2.1.1
  rcases hcase with ⟨rfl, rfl, rfl, rfl⟩ | ⟨rfl, rfl, rfl, rfl⟩
  · refine va_newa (H0 := s.heap) (A := fun q => base ≤ q) hF.1 hF.2.1 (by rw [hty]; exact hF.w acI goodAC) hty hKs hP (hF.dd hσ) hS hF.hA (a0 := (c0.toNatClampNeg, .inl (σ.2.2.2 σ.1))) (fun cA => zI_cell hzz cA) (nneg h0) rfl (by show _ * 4 ≤ _; omega) hc hs hq (fun q cA H1 hK1 hP1 hD1 hS1 => ?_)
    have ec : cA = cs.1 := by
      have h1 := (hK1.2 4 (cA, .int) rfl).2
      have h2 := (hKs.2 0 (cs.1, .int) rfl).2
      exact Option.some.inj (h1.symm.trans h2)
    subst ec
    exact so_newa0 (a0 := (c0.toNatClampNeg, .inl (fun _ => 0))) (v := []) hF hσ hl hsz kk (by rw [elm10 hK]) hP1 hD1 hS1
  · refine va_newa (H0 := s.heap) (A := fun q => base ≤ q) hF.1 hF.2.1 (by rw [hty]; exact hF.w acB goodAC) hty hKs hP (hF.dd hσ) hS hF.hA (a0 := (c0.toNatClampNeg, .inl (σ.2.2.2 σ.1))) (fun cA => zI_cell hzz cA) (nneg h0) rfl (by show _ * 1 ≤ _; omega) hc hs hq (fun q cA H1 hK1 hP1 hD1 hS1 => ?_)
    have ec : cA = cs.2.1 := by
      have h1 := (hK1.2 4 (cA, .boolean) rfl).2
      have h2 := (hKs.2 1 (cs.2.1, .boolean) rfl).2
      exact Option.some.inj (h1.symm.trans h2)
    subst ec
    exact so_newa0 (a0 := (c0.toNatClampNeg, .inl (fun _ => 0))) (v := []) hF hσ hl hsz kk (by rw [elm11 hK]) hP1 hD1 hS1
theorem vaP_last {ws : va_W} {q : Nat} {x y : va_E} (h : va_P D vwCl (ws ++ [(q, x)]) H) (hx : ∀ H : Heap, va_at D vwCl (q, x) H → va_at D vwCl (q, y) H) : va_P D vwCl (ws ++ [(q, y)]) H := by
  intro k0 z hz
  by_cases hk : k0 < ws.length
  · rw [List.getElem?_append_left hk] at hz
    exact h k0 z (by rw [List.getElem?_append_left hk]; exact hz)
  · rw [List.getElem?_append_right (by omega)] at hz
    have h0 : k0 - ws.length < 1 := (List.getElem?_eq_some_iff.mp hz).1
    rw [show k0 - ws.length = 0 by omega] at hz
    cases hz
    refine hx H (h k0 _ ?_)
    rw [List.getElem?_append_right (by omega), show k0 - ws.length = 0 by omega]
    rfl
theorem vaD_last {A : Nat → Prop} {ws : va_W} {q : Nat} {x y : va_E} (h : va_D A (ws ++ [(q, x)])) : va_D A (ws ++ [(q, y)]) := by
  have key : ∀ (k0 : Nat) (z : Nat × va_E), (ws ++ [(q, y)])[k0]? = some z → ∃ z2 : Nat × va_E, (ws ++ [(q, x)])[k0]? = some z2 ∧ z2.1 = z.1 := fun k0 z hz => by
    by_cases hk : k0 < ws.length
    · rw [List.getElem?_append_left hk] at hz
      exact ⟨z, by rw [List.getElem?_append_left hk]; exact hz, rfl⟩
    · rw [List.getElem?_append_right (by omega)] at hz
      have h0 : k0 - ws.length < 1 := (List.getElem?_eq_some_iff.mp hz).1
      rw [show k0 - ws.length = 0 by omega] at hz
      cases hz
      exact ⟨(q, x), by rw [List.getElem?_append_right (by omega), show k0 - ws.length = 0 by omega]; rfl, rfl⟩
  refine ⟨fun i j a b ha hb hab => ?_, fun k0 z hz => ?_⟩
  · obtain ⟨a2, h1, e1⟩ := key i a ha
    obtain ⟨b2, h2, e2⟩ := key j b hb
    exact h.1 i j a2 b2 h1 h2 (by rw [e1, e2]; exact hab)
  · obtain ⟨z2, h1, e1⟩ := key k0 z hz
    rw [← e1]
    exact h.2 k0 z2 h1
theorem so_newq (hF : FE p s m args meth c cc cls nL ini sc base wA ad D cs) (hσ : σ.1 ≤ 4400) (hq : decode cc pc = .ok (.anewarray k, 3)) (hP : va_P D vwCl (wld ad cs σ) H) (hS : va_S (fun q => base ≤ q) s.heap H locs) (hl : lvR ad ls nL L) (kk : KK p l e R s m args below meth c cells slots Q nL base ad D cs σ σ1 F) (hsz : s.heap.size + cells = base + σ.1) (hc : cells + (σ1.1 - σ.1) ≤ R.cells) (hs : slots + (σ1.2.1 - σ.2.1) ≤ R.slots) (hk : asc (clT cls) k = some 5) (h : xNewa 12 3 pc L st σ = some (F, σ1)) : W p l e R s m args below meth c H locs cells slots Q (F0 m pc ls (st.map (cv ad))) := by
  obtain ⟨c0, r, rfl, h0, hK, hn, hlen, hzz, rfl, rfl⟩ := xNewa_inv h
  dsimp only at hc hs
  rw [show σ.1 + 1 - σ.1 = 1 by omega] at hc
  rw [show σ.2.1 + c0.toNatClampNeg - σ.2.1 = c0.toNatClampNeg by omega] at hs
  have hKs := hF.2.2.2.2.2.2.1.1
  refine va_newq (H0 := s.heap) (A := fun q => base ≤ q) (C := RX5) hF.1 hF.2.1 hF.2.2.2.1 (hF.w (clT_in cls _ (asc_mem hk)) goodCL) hF.2.2.2.2.2.2.1.2.2.2.2.1 hKs hP (hF.dd hσ) hS hF.hA (nneg h0) rfl (by omega) hc hs hq (fun q cA H1 hK1 hP1 hD1 hS1 => ?_)
  have ec : cA = cs.2.2.1 := by
    obtain ⟨_, _, _, _, _, h1⟩ := (hK1.2 4 (cA, .object RX5) rfl).2
    obtain ⟨_, _, _, _, _, h2⟩ := (hKs.2 2 (cs.2.2.1, .object RX5) rfl).2
    exact Option.some.inj (h1.symm.trans h2)
  subst ec
  have ecell : ∀ H : Heap, va_at D vwCl (q, .inl (cs.2.2.1, c0.toNatClampNeg, .inr (.inr (.inr (.inr (fun _ => none)))))) H → va_at D vwCl (q, .inl (cs.2.2.1, c0.toNatClampNeg, .inr (.inr (.inr (.inr (fun j => (σ.2.2.1 σ.1 j).map ad)))))) H := fun H h => by
    have h2 : H[q]? = some (vp_cell cs.2.2.1 (c0.toNatClampNeg, .inr (.inr (.inr (.inr (fun _ => none)))))) := h
    show H[q]? = some (vp_cell cs.2.2.1 _)
    rw [h2, vp_cell_q, vp_cell_q]
    refine congrArg some (arrV_cg (fun j hj => ?_))
    rw [zR_none hzz hj]
    rfl
  exact so_newa0 (a0 := (c0.toNatClampNeg, .inl (fun _ => 0))) (v := []) hF hσ hl hsz kk (by rw [elm12 hK]) (vaP_last hP1 ecell) (vaD_last hD1) hS1
theorem H_size (hF : FE p s m args meth c cc cls nL ini sc base wA ad D cs) (hσ : σ.1 ≤ 4400) (hP : va_P D vwCl (wld ad cs σ) H) (hS : va_S (fun q => base ≤ q) s.heap H locs) (hsz : s.heap.size + cells = base + σ.1) (hz : H.size ≤ s.heap.size + cells) : H.size = base + σ.1 := by
  have h1 := hF.2.2.2.2.2.2.2.2.2.2
  have h2 := hS.1
  by_cases h0 : σ.1 = 0
  · omega
  · have h3 := (hP (σ.1 - 1) _ (wld_get (by omega))).lt
    dsimp only at h3
    rw [hF.2.2.2.2.2.2.2.1 _ (by omega)] at h3
    omega
theorem rowsOk_at {I : Nat → Nat → Int32} {k0 o : Nat} : ∀ (N j : Nat), rowsOk I k0 o N = true → j < N → Kd (o + j) = (10, k0) ∧ zI I (o + j) k0 = true := by
  intro N
  induction N with
  | zero =>
    intro j _ h
    omega
  | succ N ih =>
    intro j h hj
    unfold rowsOk at h
    obtain ⟨h, h3⟩ := andT h
    obtain ⟨h, h4⟩ := andT h
    obtain ⟨h1, h2⟩ := andT h
    by_cases e : j = N
    · subst e
      exact ⟨Prod.ext (beqT h1) (beqT h2), h4⟩
    · exact ih j h3 (by omega)
theorem bltF {a b : Nat} (h : ¬ a < b) : Nat.blt a b = false := by
  cases hb : Nat.blt a b with
  | false => rfl
  | true => exact absurd (bltT hb) h
theorem bltTT {a b : Nat} (h : a < b) : Nat.blt a b = true := by simpa [Nat.blt_eq] using h
theorem bleTT {a b : Nat} (h : a ≤ b) : Nat.ble a b = true := Nat.ble_eq.mpr h
theorem bleF {a b : Nat} (h : ¬ a ≤ b) : Nat.ble a b = false := by
  cases hb : Nat.ble a b with
  | false => rfl
  | true => exact absurd (bleT hb) h
theorem frRn_ne {f : Nat → Nat → Option Nat} {n N i : Nat} (h : i ≠ n) : frRn f n N i = f i := by
  funext b
  unfold frRn
  rw [beqF h]
  rfl
theorem frRn_at {f : Nat → Nat → Option Nat} {n N j : Nat} : frRn f n N n j = if j < N then some (n + 1 + j) else none := by
  unfold frRn
  rw [show Nat.beq n n = true from Nat.beq_refl n]
  by_cases h : j < N
  · rw [if_pos h, bltTT h]
    rfl
  · rw [if_neg h, bltF h]
    rfl
theorem mu_outer (c0 : ClassId) (N h0 : Nat) : ∀ i : Nat, Jvm.Free.Multi.outerC c0 N h0 i = arrV c0 N (fun j => va_rf (if j < i then some (h0 + 1 + j) else none))
  | 0 => by
    show ({ cls := c0, slots := Array.replicate N .null, vm := .none } : Cell) = _
    rw [arrV_new]
    exact congrArg (arrV c0 N) (funext fun j => by simp [va_rf])
  | i + 1 => by
    show (Jvm.Free.Multi.outerC c0 N h0 i).setSlot i (.ref (h0 + 1 + i)) = _
    rw [mu_outer c0 N h0 i, arrV_store]
    refine congrArg (arrV c0 N) (funext fun j => ?_)
    by_cases e : j = i
    · subst e
      simp [updV, va_rf]
    · by_cases h : j < i
      · simp [updV, e, h, Nat.lt_succ_of_lt h]
      · simp [updV, e, h, show ¬ j < i + 1 by omega]
theorem so_multi (hF : FE p s m args meth c cc cls nL ini sc base wA ad D cs) (hσ : σ.1 ≤ 4400) (hq : decode cc pc = .ok (.multianewarray k 2, 4)) (hP : va_P D vwCl (wld ad cs σ) H) (hS : va_S (fun q => base ≤ q) s.heap H locs) (hl : lvR ad ls nL L) (kk : KK p l e R s m args below meth c cells slots Q nL base ad D cs σ σ1 F) (hsz : s.heap.size + cells = base + σ.1) (hc : cells + (σ1.1 - σ.1) ≤ R.cells) (hs : slots + (σ1.2.1 - σ.2.1) ≤ R.slots) (hk : asc (clT cls) k = some 13) (h : xMulti pc L st σ = some (F, σ1)) : W p l e R s m args below meth c H locs cells slots Q (F0 m pc ls (st.map (cv ad))) := by
  unfold xMulti at h
  split at h
  · rename_i k0 n0 r
    obtain ⟨h0, h⟩ := ite_inv h
    obtain ⟨hb, h⟩ := bif_inv h
    cases h
    obtain ⟨hb, hb5⟩ := andT hb
    obtain ⟨hb, hb4⟩ := andT hb
    obtain ⟨hb, hb3⟩ := andT hb
    obtain ⟨hb1, hb2⟩ := andT hb
    have hKd : Kd σ.1 = (13, n0.toNatClampNeg) := Prod.ext (beqT hb1) (beqT hb2)
    have hl4 := bltT hb4
    have hl5 := bltT hb5
    have had := hF.2.2.2.2.2.2.2.1
    have hKs := hF.2.2.2.2.2.2.1.1
    dsimp only at hc hs
    rw [show σ.1 + (1 + n0.toNatClampNeg) - σ.1 = 1 + n0.toNatClampNeg by omega] at hc
    rw [show σ.2.1 + (n0.toNatClampNeg + n0.toNatClampNeg * k0.toNatClampNeg) - σ.2.1 = n0.toNatClampNeg + n0.toNatClampNeg * k0.toNatClampNeg by omega] at hs
    have es : "[" ++ (FieldType.array .int).toString = clN 13 := by decide
    have es2 : (FieldType.array .int).toString = "[" ++ FieldType.int.toString := by decide
    refine W_size (fun hz0 => ?_)
    have hz := H_size hF hσ hP hS hsz hz0
    intro T hT X
    obtain ⟨vm₁, cA, comp, -, fA, fC, -, -, X', step⟩ := X.multianewarray2F (ty := .int) hF.1 hF.2.2.2.1 (by rw [es]; exact hF.w (clT_in cls _ (asc_mem hk)) goodCL) hF.2.2.2.2.2.2.1.2.2.2.2.2 (hF.w acI goodAC) (g := F0 m pc ls (.int k0 :: .int n0 :: r.map (cv ad))) rfl (by rw [hF.2.1]; exact hq) rfl (nneg h0.2) (nneg h0.1) (by omega) (by show _ * 4 ≤ _; omega) (by omega) rfl rfl hc hs
    have eA : cA = cs.2.2.2 := Option.some.inj (fA.symm.trans (hKs.2 3 (cs.2.2.2, .array .int) rfl).2)
    have eC : comp = cs.1 := by
      have h2 : s.vm.findClass ("[" ++ FieldType.int.toString) = some cs.1 := (hKs.2 0 (cs.1, .int) rfl).2
      rw [← es2] at h2
      exact Option.some.inj (fC.symm.trans h2)
    subst eA
    subst eC
    have hTh : (T.setVm vm₁).heap = H := hT
    obtain ⟨f1, f2, -, -⟩ := Jvm.Free.Multi.fill_facts (T.setVm vm₁) cs.2.2.2 cs.1 n0.toNatClampNeg k0.toNatClampNeg (defaultValue .int) n0.toNatClampNeg
    have hold : ∀ x : Nat, x < H.size → (Jvm.Free.Multi.fill (T.setVm vm₁) cs.2.2.2 cs.1 n0.toNatClampNeg k0.toNatClampNeg (defaultValue .int) n0.toNatClampNeg).heap[x]? = H[x]? := fun x hx => by
      have := Jvm.Free.Multi.fill_old (T.setVm vm₁) cs.2.2.2 cs.1 n0.toNatClampNeg k0.toNatClampNeg (defaultValue .int) (a := x) (by rw [hTh]; exact hx) n0.toNatClampNeg
      rw [hTh] at this
      exact this
    have hrow := Jvm.Free.Multi.fill_inner (T.setVm vm₁) cs.2.2.2 cs.1 n0.toNatClampNeg k0.toNatClampNeg (defaultValue .int) n0.toNatClampNeg
    generalize hFm : Jvm.Free.Multi.fill (T.setVm vm₁) cs.2.2.2 cs.1 n0.toNatClampNeg k0.toNatClampNeg (defaultValue .int) n0.toNatClampNeg = Fm at X' step f1 f2 hold hrow
    rw [hTh] at f1 f2 hrow
    rw [hz] at f1 f2 hrow
    have hP' : va_P D vwCl (wld ad cs (σ.1 + (1 + n0.toNatClampNeg), σ.2.1 + (n0.toNatClampNeg + n0.toNatClampNeg * k0.toNatClampNeg), frRn σ.2.2.1 σ.1 n0.toNatClampNeg, σ.2.2.2)) Fm.heap := by
      intro i q hqi
      obtain ⟨hi, rfl⟩ := wld_inv hqi
      dsimp only at hi
      by_cases c1 : i < σ.1
      · rw [elm_cg (frRn_ne (Nat.ne_of_lt c1)) rfl]
        refine (hP i _ (wld_get c1)).kept (hold _ ?_)
        show ad i < H.size
        rw [hz, had i (by omega)]
        omega
      · by_cases c2 : i = σ.1
        · subst c2
          rw [elm13 hKd]
          show Fm.heap[ad σ.1]? = some (vp_cell cs.2.2.2 _)
          rw [had σ.1 (by omega), f2, vp_cell_q, mu_outer]
          refine congrArg some (congrArg (arrV cs.2.2.2 n0.toNatClampNeg) (funext fun j => ?_))
          dsimp only
          rw [frRn_at]
          by_cases cj : j < n0.toNatClampNeg
          · rw [if_pos cj, if_pos cj]
            show Value.ref _ = Value.ref (ad (σ.1 + 1 + j))
            rw [had (σ.1 + 1 + j) (by omega)]
            exact congrArg Value.ref (show (base + σ.1 + 1 + j : Nat) = base + (σ.1 + 1 + j) by omega)
          · rw [if_neg cj, if_neg cj]
            rfl
        · obtain ⟨hK, hzi⟩ := rowsOk_at n0.toNatClampNeg (i - (σ.1 + 1)) hb3 (by omega)
          rw [show σ.1 + 1 + (i - (σ.1 + 1)) = i by omega] at hK hzi
          rw [elm10 hK]
          show Fm.heap[ad i]? = some (vp_cell cs.1 _)
          have hr := hrow (i - (σ.1 + 1)) (by omega)
          rw [show base + σ.1 + 1 + (i - (σ.1 + 1)) = base + i by omega] at hr
          dsimp only
          rw [had i (by omega), hr, zI_cell hzi, ← arrV_new]
          rfl
    have hS' : va_S (fun q => base ≤ q) s.heap Fm.heap locs := ⟨by have := hS.1; omega, fun q h1 h2 => by rw [hold q (Nat.lt_of_lt_of_le h1 hS.1)]; exact hS.2.1 q h1 h2, hS.2.2⟩
    have K := kk Fm.heap locs ls hP' hS' hl
    dsimp only at K
    rw [show cells + (σ.1 + (1 + n0.toNatClampNeg) - σ.1) = cells + 1 + n0.toNatClampNeg by omega, show slots + (σ.2.1 + (n0.toNatClampNeg + n0.toNatClampNeg * k0.toNatClampNeg) - σ.2.1) = slots + n0.toNatClampNeg + n0.toNatClampNeg * k0.toNatClampNeg by omega] at K
    obtain ⟨t, a1, b1⟩ := K Fm rfl X'
    refine ⟨t, step t ?_, b1⟩
    have eT : T.heap.size = ad σ.1 := by rw [hT, hz, had σ.1 (by omega)]
    rw [eT]
    exact a1
  · cases h
end MAKE
