/-! steps over the heap -/
abbrev TS : List Cond := lw_tbl.filter goodWord
theorem ts_in {w : Cond} (h : w ∈ lw_tbl) (g : goodWord w = true) : w ∈ TS := List.mem_filter.mpr ⟨h, g⟩
theorem ts_lay {ci : Nat} (h : ci < 8) : ∀ w ∈ u_ws (clsN ci) (TXs ci) (nfs ci), w ∈ TS := fun _ hw => ts_in (layT ci h _ hw) (uws_lay hw)
theorem andT {a b : Bool} (h : (a && b) = true) : a = true ∧ b = true := by
  cases a <;> cases b <;> first | exact ⟨rfl, rfl⟩ | cases h
theorem notT {a : Bool} (h : (!a) = true) : a = false := by
  cases a
  · rfl
  · cases h
theorem cty (c k : Nat) (h : fOk c k = true) : (isR c k = true → (TXs c k).2.2.2 = true ∧ (TXs c k).1 = clsN c ∧ ((∃ n, tyXs c k = .object n) ∨ ∃ t, tyXs c k = .array t)) ∧ (isR c k = false → (TXs c k).2.2.2 = false ∧ (isB c k = true → tyXs c k = .boolean) ∧ (isB c k = false → tyXs c k = .int)) := by
  unfold fOk at h
  constructor
  · intro hr
    rw [hr] at h
    obtain ⟨h1, h2⟩ := andT h
    obtain ⟨h3, h4⟩ := andT h1
    refine ⟨h3, of_decide_eq_true h4, ?_⟩
    revert h2
    cases tyXs c k <;> intro h2 <;> first | exact Or.inl ⟨_, rfl⟩ | exact Or.inr ⟨_, rfl⟩ | cases h2
  · intro hr
    rw [hr] at h
    obtain ⟨h1, h2⟩ := andT h
    refine ⟨notT h1, fun hb => ?_, fun hb => ?_⟩
    · rw [hb] at h2
      exact of_decide_eq_true h2
    · rw [hb] at h2
      exact of_decide_eq_true h2
theorem updE {f : Nat → Nat → Int32} {o k : Nat} {v : Int32} : upN f o k v o = upd (f o) k v := by
  funext j
  rw [upN_at]
  rfl
theorem upE {f : Nat → Nat → Option Nat} {o k : Nat} {v : Option Nat} : upN f o k v o = va_up (f o) k v := by
  funext j
  rw [upN_at]
  rfl
theorem nb01 {x : Int32} (h : x = 0 ∨ x = 1) : narrow .boolean (.int x) = .int x ∧ fits .boolean (.int x) = true ∧ vp_nar .boolean x = x := by
  rcases h with rfl | rfl <;> exact ⟨by decide, by decide, by decide⟩
theorem rest_sum {ad : Nat → Nat} {r : List Value} (h : r.length ≤ 4) : ((r.map (cv ad)).map fun v => v.category).sum ≤ 8 := by
  have hc : ∀ v : Value, (cv ad v).category ≤ 2 := fun v => by
    rw [cat_lg]
    split <;> omega
  match r, h with
  | [], _ => simp
  | [a], _ =>
    have := hc a
    simp
    omega
  | [a, b], _ =>
    have := hc a
    have := hc b
    simp
    omega
  | [a, b, d], _ =>
    have := hc a
    have := hc b
    have := hc d
    simp
    omega
  | [a, b, d, g], _ =>
    have := hc a
    have := hc b
    have := hc d
    have := hc g
    simp
    omega
theorem cpy_ne {f : Nat → Nat → Int32} {a b sp dp n i : Nat} (h : i ≠ b) : cpy f a b sp dp n i = f i := by
  funext k
  unfold cpy
  cases hb : Nat.beq i b with
  | false => rfl
  | true => exact absurd (Nat.eq_of_beq_eq_true hb) h
theorem cpy_at {f : Nat → Nat → Int32} {a b sp dp n : Nat} : cpy f a b sp dp n b = va_cpy (f a) (f b) sp dp n := by
  funext k
  unfold cpy va_cpy
  rw [show Nat.beq b b = true from Nat.beq_refl b]
  rfl
section STEP2
variable {p : Program} {l : Launch} {e : Env} {R : Room} {s : State} {m : MethodId} {args : Array Value} {below : List Frame} {meth : Method} {c : Code} {H : Heap} {locs : List Loc} {cells slots : Nat} {Q : State → Prop}
variable {cc : ByteArray} {cls nL : Nat} {ini : Bool} {sc : Scr} {base wA : Nat} {ad : Nat → Nat} {D : va_G} {cs : CS} {pc : Nat} {ls : Array Slot} {L st : List Value} {σ σ1 : Mem} {F : Frm} {len k : Nat}
theorem FE.dd (hF : FE p s m args meth c cc cls nL ini sc base wA ad D cs) (hσ : σ.1 ≤ 4400) : va_D (fun q => base ≤ q) (wld ad cs σ) := wld_D hF.2.2.2.2.2.2.2.1 hσ
theorem FE.ts (hF : FE p s m args meth c cc cls nL ini sc base wA ad D cs) : ∀ w ∈ TS, w.before args s = true := fun w hw => hF.2.2.2.2.1 w (List.mem_filter.mp hw).1 (List.mem_filter.mp hw).2
theorem FE.w (hF : FE p s m args meth c cc cls nL ini sc base wA ad D cs) {w : Cond} (h : w ∈ lw_tbl) (g : goodWord w = true) : w.before args s = true := hF.2.2.2.2.1 w h g
theorem so_getfield (hF : FE p s m args meth c cc cls nL ini sc base wA ad D cs) (hσ : σ.1 ≤ 4400) (hq : decode cc pc = .ok (.getfield k, 3)) (hP : va_P D vwCl (wld ad cs σ) H) (hS : va_S (fun q => base ≤ q) s.heap H locs) (hl : lvR ad ls nL L) (kk : KK p l e R s m args below meth c cells slots Q nL base ad D cs σ σ1 F) (h : xGet cls k pc L st σ = some (F, σ1)) : W p l e R s m args below meth c H locs cells slots Q (F0 m pc ls (st.map (cv ad))) := by
  unfold xGet at h
  split at h
  · rename_i o r
    split at h
    · rename_i ci kf ef
      obtain ⟨hb, h⟩ := bif_inv h
      obtain ⟨hb1, hb2⟩ := andT hb
      have hKd := beqT hb1
      have ho := bltT hb2
      obtain ⟨hz, hlk⟩ := flT cls _ (asc_mem ef)
      obtain ⟨hz1, hz2⟩ := andT hz
      have hci : ci < 8 := bltT hz1
      have hkf : kf < nfs ci := bltT hz2
      have he : (wld ad cs σ)[o]? = some (ad o, .inr (ci, (List.range (nfs ci)).map (fld ad σ.2.2.1 σ.2.2.2 o ci))) := by rw [wld_get ho, elmO hKd hci]
      have hv : ((List.range (nfs ci)).map (fld ad σ.2.2.1 σ.2.2.2 o ci))[kf]? = some (fld ad σ.2.2.1 σ.2.2.2 o ci kf) := by simp [hkf]
      have hsame : ∀ x, s.fieldFound? (TXs ci kf).1 (TXs ci kf).2.1 (TXs ci kf).2.2.1 = some x → s.fieldFound? (clsN ci) (TXs ci kf).2.1 (TXs ci kf).2.2.1 = some x := fun x hx => by
        rw [fDecl ci hci kf hkf] at hx
        exact hx
      have G := fun K => va_get (meth := meth) (Q := Q) (cells := cells) (slots := slots) (locs := locs) (below := below) (e := e) (R := R) (l := l) (rest := r.map (cv ad)) (pc := pc) (ls := ls) hF.1 hF.2.1 hF.ts (ts_lay hci) hF.2.2.2.1 hF.2.2.2.2.2.2.1.1 hP o he (vwT ci hci) kf hkf (hF.w hlk goodFL) hsame hv hq K
      cases hr : isR ci kf with
      | true =>
        rw [hr] at h
        dsimp only [cond_true] at h
        split at h
        · rename_i q eq
          cases h
          refine G ?_
          have hfv : fld ad σ.2.2.1 σ.2.2.2 o ci kf = .ref (ad q) := by
            unfold fld
            rw [hr, eq]
            rfl
          rw [hfv]
          exact kk.same rfl rfl hP hS hl
        · cases h
      | false =>
        rw [hr] at h
        cases h
        refine G ?_
        have hfv : fld ad σ.2.2.1 σ.2.2.2 o ci kf = .int (σ.2.2.2 o kf) := by
          unfold fld
          rw [hr]
          rfl
        rw [hfv]
        exact kk.same rfl rfl hP hS hl
    · cases h
  · cases h
theorem put_fld {o ci kf : Nat} {x : Int32} {R0 : Nat → Nat → Option Nat} {I : Nat → Nat → Int32} (hr : isR ci kf = false) : ((List.range (nfs ci)).map (fld ad R0 I o ci)).set kf (.int x) = (List.range (nfs ci)).map (fld ad R0 (upN I o kf x) o ci) := by
  refine map_set ?_ (fun j hj => ?_)
  · unfold fld
    rw [hr, upN_at, if_pos rfl]
    rfl
  · unfold fld
    rw [upN_at, if_neg hj]
theorem put_fldR {o ci kf q : Nat} {R0 : Nat → Nat → Option Nat} {I : Nat → Nat → Int32} (hr : isR ci kf = true) : ((List.range (nfs ci)).map (fld ad R0 I o ci)).set kf (.ref (ad q)) = (List.range (nfs ci)).map (fld ad (upN R0 o kf (some q)) I o ci) := by
  refine map_set ?_ (fun j hj => ?_)
  · unfold fld
    rw [hr, upN_at, if_pos rfl]
    rfl
  · unfold fld
    rw [upN_at, if_neg hj]
theorem so_putfield (hF : FE p s m args meth c cc cls nL ini sc base wA ad D cs) (hσ : σ.1 ≤ 4400) (hq : decode cc pc = .ok (.putfield k, 3)) (hP : va_P D vwCl (wld ad cs σ) H) (hS : va_S (fun q => base ≤ q) s.heap H locs) (hl : lvR ad ls nL L) (kk : KK p l e R s m args below meth c cells slots Q nL base ad D cs σ σ1 F) (h : xPut cls ini k pc L st σ = some (F, σ1)) : W p l e R s m args below meth c H locs cells slots Q (F0 m pc ls (st.map (cv ad))) := by
  have hD := hF.dd (σ := σ) hσ
  unfold xPut at h
  split at h
  · rename_i x o r
    split at h
    · rename_i ci kf ef
      obtain ⟨hb, h⟩ := bif_inv h
      obtain ⟨hb0, hr0⟩ := andT hb
      obtain ⟨hb1, hb2⟩ := andT hb0
      have hr := notT hr0
      have hKd := beqT hb1
      have ho := bltT hb2
      obtain ⟨hz, hlk⟩ := flT cls _ (asc_mem ef)
      obtain ⟨hz1, hz2⟩ := andT hz
      have hci : ci < 8 := bltT hz1
      have hkf : kf < nfs ci := bltT hz2
      have he : (wld ad cs σ)[o]? = some (ad o, .inr (ci, (List.range (nfs ci)).map (fld ad σ.2.2.1 σ.2.2.2 o ci))) := by rw [wld_get ho, elmO hKd hci]
      have hsame : ∀ x, s.fieldFound? (TXs ci kf).1 (TXs ci kf).2.1 (TXs ci kf).2.2.1 = some x → s.fieldFound? (clsN ci) (TXs ci kf).2.1 (TXs ci kf).2.2.1 = some x := fun x hx => by
        rw [fDecl ci hci kf hkf] at hx
        exact hx
      obtain ⟨hfin, tyB, tyI⟩ := (cty ci kf (fOkT ci hci kf hkf)).2 hr
      have hlen : kf < ((List.range (nfs ci)).map (fld ad σ.2.2.1 σ.2.2.2 o ci)).length := by simpa using hkf
      have key : F = (pc + 3, L, r) → σ1 = (σ.1, σ.2.1, σ.2.2.1, upN σ.2.2.2 o kf x) → ∀ ty : FieldType, tyXs ci kf = ty → narrow ty (.int x) = .int x → fits ty (.int x) = true → W p l e R s m args below meth c H locs cells slots Q (F0 m pc ls ((Value.int x :: Value.ref o :: r).map (cv ad))) := by
        intro eF eσ ty hty hn hfit
        subst eF
        subst eσ
        refine va_put hF.1 hF.2.1 hF.ts (ts_lay hci) (tyXs ci) (tyT ci hci) (nmT ci hci) hF.2.2.2.1 hF.2.2.2.2.2.2.1.1 hP hD hS o he (vwT ci hci) kf hkf (hF.w hlk goodFL) hsame hfin (by rw [tyT ci hci kf hkf, hty]) hn hfit hlen hq (fun H1 locs1 hP1 hD1 hS1 => ?_)
        have E := wld_set (ad := ad) (cs := cs) (σ := σ) (σ' := (σ.1, σ.2.1, σ.2.2.1, upN σ.2.2.2 o kf x)) (o := o) (e := (.inr (ci, ((List.range (nfs ci)).map (fld ad σ.2.2.1 σ.2.2.2 o ci)).set kf (.int x)))) rfl ho (by rw [elmO hKd hci, put_fld hr]) (fun i hi => elm_cg rfl (upN_ne hi))
        have hP2 : va_P D vwCl (wld ad cs (σ.1, σ.2.1, σ.2.2.1, upN σ.2.2.2 o kf x)) H1 := by
          rw [← E]
          exact hP1
        exact kk.same rfl rfl hP2 hS1 hl
      cases hb : isB ci kf with
      | true =>
        rw [hb] at h
        obtain ⟨h01, h⟩ := ite_inv h
        cases h
        exact key rfl rfl .boolean (tyB hb) (nb01 h01).1 (nb01 h01).2.1
      | false =>
        rw [hb] at h
        cases h
        exact key rfl rfl .int (tyI hb) rfl rfl
    · cases h
  · rename_i q o r
    split at h
    · rename_i ci kf ef
      obtain ⟨hb, h⟩ := bif_inv h
      cases h
      obtain ⟨hb, hcc⟩ := andT hb
      obtain ⟨hb, hini⟩ := andT hb
      obtain ⟨hb, hr⟩ := andT hb
      obtain ⟨hb1, hb2⟩ := andT hb
      have hKd := beqT hb1
      have ho := bltT hb2
      have hcls := beqT hcc
      obtain ⟨hz, hlk⟩ := flT cls _ (asc_mem ef)
      obtain ⟨hz1, hz2⟩ := andT hz
      have hci : ci < 8 := bltT hz1
      have hkf : kf < nfs ci := bltT hz2
      have he : (wld ad cs σ)[o]? = some (ad o, .inr (ci, (List.range (nfs ci)).map (fld ad σ.2.2.1 σ.2.2.2 o ci))) := by rw [wld_get ho, elmO hKd hci]
      have hsame : ∀ x, s.fieldFound? (TXs ci kf).1 (TXs ci kf).2.1 (TXs ci kf).2.2.1 = some x → s.fieldFound? (clsN ci) (TXs ci kf).2.1 (TXs ci kf).2.2.1 = some x := fun x hx => by
        rw [fDecl ci hci kf hkf] at hx
        exact hx
      obtain ⟨hfin, hdecl, hty⟩ := (cty ci kf (fOkT ci hci kf hkf)).1 hr
      have hlen : kf < ((List.range (nfs ci)).map (fld ad σ.2.2.1 σ.2.2.2 o ci)).length := by simpa using hkf
      have hn : narrow (tyXs ci kf) (.ref (ad q)) = .ref (ad q) ∧ fits (tyXs ci kf) (.ref (ad q)) = true := by
        rcases hty with ⟨n, e⟩ | ⟨t, e⟩ <;> rw [e] <;> exact ⟨rfl, rfl⟩
      refine va_putF hF.1 hF.2.1 hF.ts (ts_lay hci) (tyXs ci) (tyT ci hci) (nmT ci hci) hF.2.2.2.1 hF.2.2.2.2.2.2.1.1 hP hD hS o he (vwT ci hci) kf hkf (hF.w hlk goodFL) hsame hfin (hF.2.2.2.2.2.1 hini) (by rw [hdecl, hcls]) (tyT ci hci kf hkf) hn.1 hn.2 hlen hq (fun H1 locs1 hP1 hD1 hS1 => ?_)
      have E := wld_set (ad := ad) (cs := cs) (σ := σ) (σ' := (σ.1, σ.2.1, upN σ.2.2.1 o kf (some q), σ.2.2.2)) (o := o) (e := (.inr (ci, ((List.range (nfs ci)).map (fld ad σ.2.2.1 σ.2.2.2 o ci)).set kf (.ref (ad q))))) rfl ho (by rw [elmO hKd hci, put_fldR hr]) (fun i hi => elm_cg (upN_ne hi) rfl)
      have hP2 : va_P D vwCl (wld ad cs (σ.1, σ.2.1, upN σ.2.2.1 o kf (some q), σ.2.2.2)) H1 := by
        rw [← E]
        exact hP1
      exact kk.same rfl rfl hP2 hS1 hl
    · cases h
  · cases h
theorem so_iaload (hF : FE p s m args meth c cc cls nL ini sc base wA ad D cs) (hσ : σ.1 ≤ 4400) (hq : decode cc pc = .ok (.iaload, 1)) (hP : va_P D vwCl (wld ad cs σ) H) (hS : va_S (fun q => base ≤ q) s.heap H locs) (hl : lvR ad ls nL L) (kk : KK p l e R s m args below meth c cells slots Q nL base ad D cs σ σ1 F) (h : xIald sc pc L st σ = some (F, σ1)) : W p l e R s m args below meth c H locs cells slots Q (F0 m pc ls (st.map (cv ad))) := by
  unfold xIald at h
  split at h
  · rename_i j a r
    split at h
    · rename_i n eK
      obtain ⟨ha, h⟩ := bif_inv h
      obtain ⟨hin, h⟩ := ite_inv h
      cases h
      exact va_iald hF.1 hF.2.1 hF.2.2.2.2.2.2.1.1 hP a 0 (by rw [wld_get (bltT ha), elm10 eK]) rfl hin hq (kk.same rfl rfl hP hS hl)
    · rename_i n eK
      obtain ⟨ha, h⟩ := bif_inv h
      obtain ⟨hin, h⟩ := ite_inv h
      cases h
      have ea : a = 5000 := beqT ha
      subst ea
      have en : n = 6 := by
        have : Kd 5000 = (20, 6) := rfl
        rw [this] at eK
        cases eK
        rfl
      subst en
      have hT := hF.2.2.2.2.2.2.1.2.2.1
      have hw : ad 5000 = wA := hF.2.2.2.2.2.2.2.2.1
      show W p l e R s m args below meth c H locs cells slots Q (F0 m pc ls (.int j :: .ref (ad 5000) :: r.map (cv ad)))
      rw [hw]
      exact va_ti hF.1 hF.2.1 hT hS hin rfl hq (kk.same rfl rfl hP hS hl)
    · rename_i n eK
      obtain ⟨ha, h⟩ := bif_inv h
      obtain ⟨hin, h⟩ := ite_inv h
      cases h
      obtain ⟨ha1, ha2⟩ := andT ha
      have ea : a = 5001 := beqT ha1
      subst ea
      obtain ⟨hX, hb⟩ := hF.2.2.2.2.2.2.2.2.2.1 ha2
      exact va_sld hF.1 hF.2.1 hX (Nat.lt_of_lt_of_le hb hF.2.2.2.2.2.2.2.2.2.2) (Nat.not_le.mpr hb) hS hin hq (kk.same rfl rfl hP hS hl)
    · cases h
  · cases h
theorem so_arraylength (hF : FE p s m args meth c cc cls nL ini sc base wA ad D cs) (hσ : σ.1 ≤ 4400) (hq : decode cc pc = .ok (.arraylength, 1)) (hP : va_P D vwCl (wld ad cs σ) H) (hS : va_S (fun q => base ≤ q) s.heap H locs) (hl : lvR ad ls nL L) (kk : KK p l e R s m args below meth c cells slots Q nL base ad D cs σ σ1 F) (h : (match st with
    | .ref a :: r => bif Nat.beq a 5001 && sc.1 then some ((pc + 1, L, .int (Int32.ofNat sc.2.1) :: r), σ) else none
    | _ => none) = some (F, σ1)) : W p l e R s m args below meth c H locs cells slots Q (F0 m pc ls (st.map (cv ad))) := by
  split at h
  · obtain ⟨ha, h⟩ := bif_inv h
    cases h
    obtain ⟨ha1, ha2⟩ := andT ha
    have ea := beqT ha1
    subst ea
    obtain ⟨hX, hb⟩ := hF.2.2.2.2.2.2.2.2.2.1 ha2
    exact va_slen hF.1 hF.2.1 hX (Nat.lt_of_lt_of_le hb hF.2.2.2.2.2.2.2.2.2.2) (Nat.not_le.mpr hb) hS hq (kk.same rfl rfl hP hS hl)
  · cases h
theorem so_iastore (hF : FE p s m args meth c cc cls nL ini sc base wA ad D cs) (hσ : σ.1 ≤ 4400) (hq : decode cc pc = .ok (.iastore, 1)) (hP : va_P D vwCl (wld ad cs σ) H) (hS : va_S (fun q => base ≤ q) s.heap H locs) (hl : lvR ad ls nL L) (kk : KK p l e R s m args below meth c cells slots Q nL base ad D cs σ σ1 F) (h : xIast pc L st σ = some (F, σ1)) : W p l e R s m args below meth c H locs cells slots Q (F0 m pc ls (st.map (cv ad))) := by
  have hD := hF.dd (σ := σ) hσ
  unfold xIast at h
  split at h
  · rename_i x j a r
    split at h
    · rename_i n eK
      obtain ⟨ha, h⟩ := bif_inv h
      obtain ⟨hin, h⟩ := ite_inv h
      cases h
      refine va_iast hF.1 hF.2.1 hF.2.2.2.2.2.2.1.1 hP hD hS a 0 (by rw [wld_get (bltT ha), elm10 eK]) rfl hin hq (fun H1 locs1 hP1 hD1 hS1 => ?_)
      have E := wld_set (ad := ad) (cs := cs) (σ := σ) (σ' := (σ.1, σ.2.1, σ.2.2.1, upN σ.2.2.2 a j.toNatClampNeg x)) (o := a) (e := (.inl (cs.1, n, .inl (upd (σ.2.2.2 a) j.toNatClampNeg x)))) rfl (bltT ha) (by rw [elm10 eK, ← updE]) (fun i hi => elm_cg rfl (upN_ne hi))
      have hP2 : va_P D vwCl (wld ad cs (σ.1, σ.2.1, σ.2.2.1, upN σ.2.2.2 a j.toNatClampNeg x)) H1 := by
        rw [← E]
        exact hP1
      exact kk.same rfl rfl hP2 hS1 hl
    · cases h
  · cases h
theorem so_baload (hF : FE p s m args meth c cc cls nL ini sc base wA ad D cs) (hσ : σ.1 ≤ 4400) (hq : decode cc pc = .ok (.baload, 1)) (hP : va_P D vwCl (wld ad cs σ) H) (hS : va_S (fun q => base ≤ q) s.heap H locs) (hl : lvR ad ls nL L) (kk : KK p l e R s m args below meth c cells slots Q nL base ad D cs σ σ1 F) (h : xBald pc L st σ = some (F, σ1)) : W p l e R s m args below meth c H locs cells slots Q (F0 m pc ls (st.map (cv ad))) := by
  unfold xBald at h
  split at h
  · rename_i j a r
    split at h
    · rename_i n eK
      obtain ⟨ha, h⟩ := bif_inv h
      obtain ⟨hin, h⟩ := ite_inv h
      cases h
      exact va_zald hF.1 hF.2.1 hF.2.2.2.2.2.2.1.1 hP a 1 (by rw [wld_get (bltT ha), elm11 eK]) rfl hin hq (kk.same rfl rfl hP hS hl)
    · cases h
  · cases h
theorem so_bastore (hF : FE p s m args meth c cc cls nL ini sc base wA ad D cs) (hσ : σ.1 ≤ 4400) (hq : decode cc pc = .ok (.bastore, 1)) (hP : va_P D vwCl (wld ad cs σ) H) (hS : va_S (fun q => base ≤ q) s.heap H locs) (hl : lvR ad ls nL L) (kk : KK p l e R s m args below meth c cells slots Q nL base ad D cs σ σ1 F) (h : xBast pc L st σ = some (F, σ1)) : W p l e R s m args below meth c H locs cells slots Q (F0 m pc ls (st.map (cv ad))) := by
  have hD := hF.dd (σ := σ) hσ
  unfold xBast at h
  split at h
  · rename_i x j a r
    split at h
    · rename_i n eK
      obtain ⟨ha, h⟩ := bif_inv h
      obtain ⟨hin, h⟩ := ite_inv h
      obtain ⟨h01, h⟩ := ite_inv h
      cases h
      refine va_zast hF.1 hF.2.1 hF.2.2.2.2.2.2.1.1 hP hD hS a 1 (by rw [wld_get (bltT ha), elm11 eK]) rfl hin hq (fun H1 locs1 hP1 hD1 hS1 => ?_)
      rw [(nb01 h01).2.2] at hP1
      have E := wld_set (ad := ad) (cs := cs) (σ := σ) (σ' := (σ.1, σ.2.1, σ.2.2.1, upN σ.2.2.2 a j.toNatClampNeg x)) (o := a) (e := (.inl (cs.2.1, n, .inl (upd (σ.2.2.2 a) j.toNatClampNeg x)))) rfl (bltT ha) (by rw [elm11 eK, ← updE]) (fun i hi => elm_cg rfl (upN_ne hi))
      have hP2 : va_P D vwCl (wld ad cs (σ.1, σ.2.1, σ.2.2.1, upN σ.2.2.2 a j.toNatClampNeg x)) H1 := by
        rw [← E]
        exact hP1
      exact kk.same rfl rfl hP2 hS1 hl
    · cases h
  · cases h
theorem so_aald0 {a n : Nat} {j : Int32} {r : List Value} {cA : ClassId} {ty : FieldType} {f : Nat → Option Nat} {q : Nat} (hF : FE p s m args meth c cc cls nL ini sc base wA ad D cs) (hq : decode cc pc = .ok (.aaload, 1)) (hP : va_P D vwCl (wld ad cs σ) H) (ha : (wld ad cs σ)[a]? = some (ad a, .inl (cA, n, .inr (.inr (.inr (.inr f)))))) (hA : ArrOfT s cA ty) (hR : ty.isReference = true) (hin : inA j n) (hf : f j.toNatClampNeg = some q) (K : W p l e R s m args below meth c H locs cells slots Q (F0 m (pc + 1) ls (.ref q :: r))) : W p l e R s m args below meth c H locs cells slots Q (F0 m pc ls (.int j :: .ref (ad a) :: r)) := by
  have hlt : j.toNatClampNeg < n := Nat.not_le.mp fun q => hin (Or.inr q)
  exact W.aald (v := .ref q) (ty := ty) hF.1 hF.2.1 (hP a _ ha) (hA n (fun j => va_rf (f j))) hR (fun q => by cases q) (by show ¬ (j < 0 ∨ (arrV _ _ _).slots.size ≤ _); rw [arrV_size]; exact hin) (by show (arrV _ _ _).slots[_]? = _; rw [arrV_read _ _ hlt, hf]; rfl) rfl rfl hq K
theorem so_aaload (hF : FE p s m args meth c cc cls nL ini sc base wA ad D cs) (hσ : σ.1 ≤ 4400) (hq : decode cc pc = .ok (.aaload, 1)) (hP : va_P D vwCl (wld ad cs σ) H) (hS : va_S (fun q => base ≤ q) s.heap H locs) (hl : lvR ad ls nL L) (kk : KK p l e R s m args below meth c cells slots Q nL base ad D cs σ σ1 F) (h : xAald pc L st σ = some (F, σ1)) : W p l e R s m args below meth c H locs cells slots Q (F0 m pc ls (st.map (cv ad))) := by
  unfold xAald at h
  split at h
  · rename_i j a r
    split at h
    · rename_i n eK
      obtain ⟨ha, h⟩ := bif_inv h
      obtain ⟨hin, h⟩ := ite_inv h
      split at h
      · rename_i q eq
        cases h
        exact so_aald0 hF hq hP (by rw [wld_get (bltT ha), elm12 eK]) (hF.2.2.2.2.2.2.1.1.2 2 _ rfl).1 rfl hin (by rw [eq]; rfl) (kk.same rfl rfl hP hS hl)
      · cases h
    · rename_i n eK
      obtain ⟨ha, h⟩ := bif_inv h
      obtain ⟨hin, h⟩ := ite_inv h
      split at h
      · rename_i q eq
        cases h
        exact so_aald0 hF hq hP (by rw [wld_get (bltT ha), elm13 eK]) (hF.2.2.2.2.2.2.1.1.2 3 _ rfl).1 rfl hin (by rw [eq]; rfl) (kk.same rfl rfl hP hS hl)
      · cases h
    · cases h
  · cases h
theorem map_up {f : Nat → Option Nat} {k q : Nat} : (fun j => (va_up f k (some q) j).map ad) = va_up (fun j => (f j).map ad) k (some (ad q)) := by
  funext j
  unfold va_up
  by_cases h : j = k
  · rw [if_pos h, if_pos h]
    rfl
  · rw [if_neg h, if_neg h]
theorem so_aastore (hF : FE p s m args meth c cc cls nL ini sc base wA ad D cs) (hσ : σ.1 ≤ 4400) (hq : decode cc pc = .ok (.aastore, 1)) (hP : va_P D vwCl (wld ad cs σ) H) (hS : va_S (fun q => base ≤ q) s.heap H locs) (hl : lvR ad ls nL L) (kk : KK p l e R s m args below meth c cells slots Q nL base ad D cs σ σ1 F) (h : xAast pc L st σ = some (F, σ1)) : W p l e R s m args below meth c H locs cells slots Q (F0 m pc ls (st.map (cv ad))) := by
  have hD := hF.dd (σ := σ) hσ
  unfold xAast at h
  split at h
  · rename_i q j a r
    split at h
    · rename_i n eK
      obtain ⟨hin, h⟩ := ite_inv h
      obtain ⟨hb, h⟩ := bif_inv h
      cases h
      obtain ⟨hb, ha⟩ := andT hb
      obtain ⟨hb1, hb2⟩ := andT hb
      have hKq := beqT hb1
      refine va_astq (r := (RX5, TX5, 16)) hF.1 hF.2.1 hF.2.2.2.2.2.2.1.1 hP hD hS a 2 q 5 (by rw [wld_get (bltT ha), elm12 eK]) rfl (by rw [wld_get (bltT hb2), elmO hKq (by decide)]) rfl hin hq (fun H1 locs1 hP1 hD1 hS1 => ?_)
      have E := wld_set (ad := ad) (cs := cs) (σ := σ) (σ' := (σ.1, σ.2.1, upN σ.2.2.1 a j.toNatClampNeg (some q), σ.2.2.2)) (o := a) (e := (.inl (cs.2.2.1, n, .inr (.inr (.inr (.inr (va_up (fun j => (σ.2.2.1 a j).map ad) j.toNatClampNeg (some (ad q))))))))) rfl (bltT ha) (by rw [elm12 eK, ← map_up, ← upE]) (fun i hi => elm_cg (upN_ne hi) rfl)
      have hP2 : va_P D vwCl (wld ad cs (σ.1, σ.2.1, upN σ.2.2.1 a j.toNatClampNeg (some q), σ.2.2.2)) H1 := by
        rw [← E]
        exact hP1
      exact kk.same rfl rfl hP2 hS1 hl
    · cases h
  · cases h
theorem so_getstatic (hF : FE p s m args meth c cc cls nL ini sc base wA ad D cs) (hσ : σ.1 ≤ 4400) (hq : decode cc pc = .ok (.getstatic k, 3)) (hP : va_P D vwCl (wld ad cs σ) H) (hS : va_S (fun q => base ≤ q) s.heap H locs) (hl : lvR ad ls nL L) (kk : KK p l e R s m args below meth c cells slots Q nL base ad D cs σ σ1 F) (h : (bif Nat.beq cls 6 && Nat.beq k widerCp then some ((pc + 3, L, .ref 5000 :: st), σ) else none) = some (F, σ1)) : W p l e R s m args below meth c H locs cells slots Q (F0 m pc ls (st.map (cv ad))) := by
  obtain ⟨hb, h⟩ := bif_inv h
  cases h
  obtain ⟨h1, h2⟩ := andT hb
  have e1 := beqT h1
  have e2 := beqT h2
  subst e1
  subst e2
  have hw : ad 5000 = wA := hF.2.2.2.2.2.2.2.2.1
  refine va_gets hF.1 hF.2.1 hF.2.2.2.2.2.2.1.2.1 hS hF.2.2.2.1 (hF.w widerLk goodFL) (fun _ h => h) hq ?_
  rw [← hw]
  exact kk.same rfl rfl hP hS hl
theorem so_obj (hF : FE p s m args meth c cc cls nL ini sc base wA ad D cs) (hσ : σ.1 ≤ 4400) (hq : decode cc pc = .ok (.invokespecial k, 3)) (hP : va_P D vwCl (wld ad cs σ) H) (hS : va_S (fun q => base ≤ q) s.heap H locs) (hl : lvR ad ls nL L) (kk : KK p l e R s m args below meth c cells slots Q nL base ad D cs σ σ1 F) (hR : 1 ≤ R.frames ∧ 64 ≤ R.locals) (h : xObj cls k pc L st σ = some (F, σ1)) : W p l e R s m args below meth c H locs cells slots Q (F0 m pc ls (st.map (cv ad))) := by
  unfold xObj at h
  split at h
  · rename_i t fl et
    obtain ⟨hb, h⟩ := bif_inv h
    obtain ⟨h1, h2⟩ := andT hb
    have e1 := beqT h1
    have e2 := notT h2
    subst e1
    subst e2
    split at h
    · rename_i a r _
      have h7 := bif_inv (b := Nat.ble r.length 4) h
      obtain ⟨hlen, h8⟩ := h7
      cases h8
      have hlk : Cond.methodLink (clsN cls) k Lib.objectInit ∈ lw_tbl := by
        rcases mlT cls _ (asc_mem et) with ⟨-, hz⟩ | ⟨hz, -⟩
        · exact hz
        · cases hz
      have hcat : ((r.map (cv ad)).map fun v => v.category).sum ≤ 8 := rest_sum (bleT hlen)
      refine W.objInit (rest := r.map (cv ad)) hF.1 hF.2.1 hF.2.2.2.1 (hF.w hlk goodML) (hF.w objIM goodIM) (hF.w objCO goodCO) rfl ?_ rfl hq hR.1 ?_ ?_
      · rw [hF.2.2.1]
        obtain ⟨-, lv, hlv, -⟩ := hl
        exact hlv.1
      · show 2 * 0 + ((r.map (cv ad)).map fun v => v.category).sum + 12 ≤ R.locals
        omega
      · exact W.eq (g2 := F0 m (pc + 3) ls (r.map (cv ad))) rfl (kk.same rfl rfl hP hS hl)
    · cases h
  · cases h
theorem so_copy (hF : FE p s m args meth c cc cls nL ini sc base wA ad D cs) (hσ : σ.1 ≤ 4400) (hq : decode cc pc = .ok (.invokestatic k, 3)) (hP : va_P D vwCl (wld ad cs σ) H) (hS : va_S (fun q => base ≤ q) s.heap H locs) (hl : lvR ad ls nL L) (kk : KK p l e R s m args below meth c cells slots Q nL base ad D cs σ σ1 F) (hR : 1 ≤ R.frames ∧ 64 ≤ R.locals) (h : xCopy cls k pc L st σ = some (F, σ1)) : W p l e R s m args below meth c H locs cells slots Q (F0 m pc ls (st.map (cv ad))) := by
  have hD := hF.dd (σ := σ) hσ
  unfold xCopy at h
  split at h
  · rename_i t fl et
    obtain ⟨hb, h⟩ := bif_inv h
    obtain ⟨h1, h2⟩ := andT hb
    have e1 := beqT h1
    have e2 := notT h2
    subst e1
    subst e2
    split at h
    · rename_i n dp b sp a _
      split at h
      · rename_i na nb ea eb
        cases hab : (Nat.blt a σ.1 && Nat.blt b σ.1) with
        | false =>
          rw [hab] at h
          cases h
        | true =>
          rw [hab] at h
          dsimp only [cond_true] at h
          by_cases hc : ¬ sp < 0 ∧ ¬ dp < 0 ∧ ¬ n < 0 ∧ sp.toNatClampNeg + n.toNatClampNeg ≤ na ∧ dp.toNatClampNeg + n.toNatClampNeg ≤ nb
          · rw [if_pos hc] at h
            cases h
            obtain ⟨ha, hb⟩ := andT hab
            obtain ⟨c1, c2, c3, c4, c5⟩ := hc
            have hlk : Cond.methodLink (clsN cls) k arraycopyName ∈ lw_tbl := by
              rcases mlT cls _ (asc_mem et) with ⟨-, hz⟩ | ⟨hz, -⟩
              · exact hz
              · cases hz
            have hml : c.maxLocals = ls.size := by
              rw [hF.2.2.1]
              obtain ⟨-, lv, hlv, -⟩ := hl
              exact hlv.1.symm
            refine va_copyi (rest := []) (ty := .int) hF.1 hF.2.1 hml hF.2.2.2.1 (hF.w hlk goodML) (hF.w arcNA goodNA) (hF.w arcST goodST) (hF.w arcIN goodIN) hF.2.2.2.2.2.2.1.1 hP hD hS a b 0 0 (by rw [wld_get (bltT ha), elm10 ea]) (by rw [wld_get (bltT hb), elm10 eb]) rfl rfl rfl c1 c2 c3 c4 c5 (fun _ _ => rfl) hR.1 (Nat.le_trans (by decide) hR.2) hq (fun H1 locs1 hP1 hD1 hS1 => ?_)
            have E := wld_set (ad := ad) (cs := cs) (σ := σ) (σ' := (σ.1, σ.2.1, σ.2.2.1, cpy σ.2.2.2 a b sp.toNatClampNeg dp.toNatClampNeg n.toNatClampNeg)) (o := b) (e := (.inl (cs.1, nb, .inl (va_cpy (σ.2.2.2 a) (σ.2.2.2 b) sp.toNatClampNeg dp.toNatClampNeg n.toNatClampNeg)))) rfl (bltT hb) (by rw [elm10 eb, ← cpy_at]) (fun i hi => elm_cg rfl (cpy_ne hi))
            have hP2 : va_P D vwCl (wld ad cs (σ.1, σ.2.1, σ.2.2.1, cpy σ.2.2.2 a b sp.toNatClampNeg dp.toNatClampNeg n.toNatClampNeg)) H1 := by
              rw [← E]
              exact hP1
            exact kk.same rfl rfl hP2 hS1 hl
          · rw [if_neg hc] at h
            cases h
      · cases h
    · cases h
  · cases h
end STEP2
