/-! every step; calls; runs -/
section RUN
variable {p : Program} {l : Launch} {e : Env} {R : Room} {s : State} {m : MethodId} {args : Array Value} {below : List Frame} {meth : Method} {c : Code} {H : Heap} {locs : List Loc} {cells slots : Nat} {Q : State → Prop}
variable {cc : ByteArray} {cls nL : Nat} {ini : Bool} {sc : Scr} {base wA : Nat} {ad : Nat → Nat} {D : va_G} {cs : CS} {pc : Nat} {ls : Array Slot} {L st : List Value} {σ σ1 : Mem} {F : Frm} {len k : Nat}
set_option maxHeartbeats 4000000 in
theorem stp_ok (hF : FE p s m args meth c cc cls nL ini sc base wA ad D cs) (hσ : σ.1 ≤ 4400) {q : Instr × Nat} (hq : decode cc pc = .ok q) (hok : insOk q = true) (hP : va_P D vwCl (wld ad cs σ) H) (hS : va_S (fun q => base ≤ q) s.heap H locs) (hl : lvR ad ls nL L) (hR : 1 ≤ R.frames ∧ 64 ≤ R.locals) (hsz : s.heap.size + cells = base + σ.1) (hc : cells + (σ1.1 - σ.1) ≤ R.cells) (hs : slots + (σ1.2.1 - σ.2.1) ≤ R.slots) (kk : KK p l e R s m args below meth c cells slots Q nL base ad D cs σ σ1 F) (h : stp cls ini sc q.1 pc L st σ = some (F, σ1)) : W p l e R s m args below meth c H locs cells slots Q (F0 m pc ls (st.map (cv ad))) := by
  obtain ⟨ins, ln⟩ := q
  cases ins
  case iadd =>
    obtain rfl := beqT hok
    exact so_iadd hF hq hP hS hl kk h
  case isub =>
    obtain rfl := beqT hok
    exact so_isub hF hq hP hS hl kk h
  case imul =>
    obtain rfl := beqT hok
    exact so_imul hF hq hP hS hl kk h
  case iand =>
    obtain rfl := beqT hok
    exact so_iand hF hq hP hS hl kk h
  case ior =>
    obtain rfl := beqT hok
    exact so_ior hF hq hP hS hl kk h
  case ixor =>
    obtain rfl := beqT hok
    exact so_ixor hF hq hP hS hl kk h
  case ishl =>
    obtain rfl := beqT hok
    exact so_ishl hF hq hP hS hl kk h
  case ishr =>
    obtain rfl := beqT hok
    exact so_ishr hF hq hP hS hl kk h
  case iushr =>
    obtain rfl := beqT hok
    exact so_iushr hF hq hP hS hl kk h
  case idiv =>
    obtain rfl := beqT hok
    exact so_idiv hF hq hP hS hl kk h
  case irem =>
    obtain rfl := beqT hok
    exact so_irem hF hq hP hS hl kk h
  case ineg =>
    obtain rfl := beqT hok
    exact so_ineg hF hq hP hS hl kk h
  case i2b =>
    obtain rfl := beqT hok
    exact so_i2b hF hq hP hS hl kk h
  case i2s =>
    obtain rfl := beqT hok
    exact so_i2s hF hq hP hS hl kk h
  case i2l =>
    obtain rfl := beqT hok
    exact so_i2l hF hq hP hS hl kk h
  case ladd =>
    obtain rfl := beqT hok
    exact so_ladd hF hq hP hS hl kk h
  case lcmp =>
    obtain rfl := beqT hok
    exact so_lcmp hF hq hP hS hl kk h
  case dup =>
    obtain rfl := beqT hok
    exact so_dup hF hq hP hS hl kk h
  case dup2 =>
    obtain rfl := beqT hok
    exact so_dup2 hF hq hP hS hl kk h
  case aload k =>
    obtain rfl := beqT hok
    exact so_aload hF hq hP hS hl kk h
  case iload k =>
    obtain rfl := beqT hok
    exact so_iload hF hq hP hS hl kk h
  case lload k =>
    obtain rfl := beqT hok
    exact so_lload hF hq hP hS hl kk h
  case istore k =>
    obtain rfl := beqT hok
    exact so_istore hF hq hP hS hl kk h
  case aload_n k =>
    obtain rfl := beqT hok
    exact so_aload_n hF hq hP hS hl kk h
  case iload_n k =>
    obtain rfl := beqT hok
    exact so_iload_n hF hq hP hS hl kk h
  case lload_n k =>
    obtain rfl := beqT hok
    exact so_lload_n hF hq hP hS hl kk h
  case istore_n k =>
    obtain rfl := beqT hok
    exact so_istore_n hF hq hP hS hl kk h
  case astore_n k =>
    obtain rfl := beqT hok
    exact so_astore_n hF hq hP hS hl kk h
  case iconst n =>
    obtain ⟨h1, h2⟩ := andT hok
    obtain rfl := beqT h1
    exact so_iconst hF hq hP hS hl kk (of_decide_eq_true h2) h
  case bipush n =>
    obtain ⟨h1, h2⟩ := andT hok
    obtain rfl := beqT h1
    exact so_bipush hF hq hP hS hl kk (of_decide_eq_true h2) h
  case sipush n =>
    obtain ⟨h1, h2⟩ := andT hok
    obtain rfl := beqT h1
    exact so_sipush hF hq hP hS hl kk (of_decide_eq_true h2) h
  case lconst n =>
    obtain rfl := beqT hok
    exact so_lconst hF hq hP hS hl kk h
  case ldc n =>
    obtain rfl := beqT hok
    exact so_ldc hF hq hP hS hl kk h
  case ldc_w n =>
    obtain rfl := beqT hok
    exact so_ldc_w hF hq hP hS hl kk h
  case ldc2_w n =>
    obtain rfl := beqT hok
    exact so_ldc2_w hF hq hP hS hl kk h
  case iinc i n =>
    obtain ⟨h1, h2⟩ := andT hok
    obtain rfl := beqT h1
    exact so_iinc hF hq hP hS hl kk (of_decide_eq_true h2) h
  case goto off =>
    obtain rfl := beqT hok
    exact so_goto hF hq hP hS hl kk h
  case ifCond cn off =>
    obtain rfl := beqT hok
    dsimp only [stp] at h
    split at h
    · cases cn
      case eq => exact so_if_eq hF hq hP hS hl kk h
      case ne => exact so_if_ne hF hq hP hS hl kk h
      case lt => exact so_if_lt hF hq hP hS hl kk h
      case ge => exact so_if_ge hF hq hP hS hl kk h
      case gt => exact so_if_gt hF hq hP hS hl kk h
      case le => exact so_if_le hF hq hP hS hl kk h
    · cases h
  case if_icmp cn off =>
    obtain rfl := beqT hok
    dsimp only [stp] at h
    split at h
    · cases cn
      case eq => exact so_icmp_eq hF hq hP hS hl kk h
      case ne => exact so_icmp_ne hF hq hP hS hl kk h
      case lt => exact so_icmp_lt hF hq hP hS hl kk h
      case ge => exact so_icmp_ge hF hq hP hS hl kk h
      case gt => exact so_icmp_gt hF hq hP hS hl kk h
      case le => exact so_icmp_le hF hq hP hS hl kk h
    · cases h
  case tableswitch d lo hi offs => exact so_tsw hF hq hP hS hl kk h
  case lookupswitch d ps => exact so_lsw hF hq hP hS hl kk hok h
  case getfield k =>
    obtain rfl := beqT hok
    exact so_getfield hF hσ hq hP hS hl kk h
  case putfield k =>
    obtain rfl := beqT hok
    exact so_putfield hF hσ hq hP hS hl kk h
  case getstatic k =>
    obtain rfl := beqT hok
    exact so_getstatic hF hσ hq hP hS hl kk h
  case iaload =>
    obtain rfl := beqT hok
    exact so_iaload hF hσ hq hP hS hl kk h
  case iastore =>
    obtain rfl := beqT hok
    exact so_iastore hF hσ hq hP hS hl kk h
  case baload =>
    obtain rfl := beqT hok
    exact so_baload hF hσ hq hP hS hl kk h
  case bastore =>
    obtain rfl := beqT hok
    exact so_bastore hF hσ hq hP hS hl kk h
  case aaload =>
    obtain rfl := beqT hok
    exact so_aaload hF hσ hq hP hS hl kk h
  case aastore =>
    obtain rfl := beqT hok
    exact so_aastore hF hσ hq hP hS hl kk h
  case arraylength =>
    obtain rfl := beqT hok
    exact so_arraylength hF hσ hq hP hS hl kk h
  case invokespecial k =>
    obtain rfl := beqT hok
    exact so_obj hF hσ hq hP hS hl kk hR h
  case invokestatic k =>
    obtain rfl := beqT hok
    exact so_copy hF hσ hq hP hS hl kk hR h
  case new k =>
    obtain rfl := beqT hok
    exact so_new hF hσ hq hP hS hl kk hsz hc hs h
  case newarray t =>
    obtain rfl := beqT hok
    cases t
    case int => exact so_newarray .int 10 0 cs.1 (Or.inl ⟨rfl, rfl, rfl, rfl⟩) rfl hF hσ hq hP hS hl kk hsz hc hs h
    case boolean => exact so_newarray .boolean 11 1 cs.2.1 (Or.inr ⟨rfl, rfl, rfl, rfl⟩) rfl hF hσ hq hP hS hl kk hsz hc hs h
    all_goals exact nomatch (show none = some (F, σ1) from h)
  case anewarray k =>
    obtain rfl := beqT hok
    dsimp only [stp] at h
    split at h
    · rename_i e5
      exact so_newq hF hσ hq hP hS hl kk hsz hc hs e5 h
    · cases h
  case multianewarray k d =>
    obtain rfl := beqT hok
    dsimp only [stp] at h
    obtain ⟨h1, h⟩ := bif_inv h
    obtain rfl := beqT h1
    split at h
    · rename_i e13
      exact so_multi hF hσ hq hP hS hl kk hsz hc hs e13 h
    · cases h
  all_goals exact nomatch (show none = some (F, σ1) from h)
/-! calls -/
def rmD (d mc ms : Nat) : Room := { frames := d, cells := mc, slots := ms, locals := 64 * d }
def PcD (base wA : Nat) (ad : Nat → Nat) (D : va_G) (cs : CS) (as : List Value) (σ : Mem) : Array Value → State → Prop := fun av U => av = (as.map (cv ad)).toArray ∧ U.heap.size = base + σ.1 ∧ va_P D vwCl (wld ad cs σ) U.heap ∧ WX base wA D cs U
def QcD (base : Nat) (ad : Nat → Nat) (D : va_G) (cs : CS) (v : Option Value) (σ' : Mem) : Array Value → State → Outcome → State → Prop := fun _ st oc t => oc = .returned (v.map (cv ad)) ∧ va_P D vwCl (wld ad cs σ') t.heap ∧ va_F (fun q => base ≤ q) st t
def wsD (x : MTy) : List Cond := Cond.code x.2.1 x.2.2.1 x.2.2.2.1 x.2.2.2.2.1 :: TS
/-- the contract of a call that the pure machine runs -/
def CT (l : Launch) (base wA : Nat) (ad : Nat → Nat) (D : va_G) (cs : CS) (d t : Nat) (as : List Value) (σ : Mem) (v : Option Value) (σ' : Mem) : Prop := ∀ x, asc mT t = some x → Met l x.2.1 (wsD x) (rmD d (σ'.1 - σ.1) (σ'.2.1 - σ.2.1)) (PcD base wA ad D cs as σ) (QcD base ad D cs v σ') (σ'.1 - σ.1) (σ'.2.1 - σ.2.1) (fun q => base ≤ q)
theorem PcD_blind {as : List Value} : FrameBlind (PcD base wA ad D cs as σ) := by
  intro a U g mk ⟨h1, h2, h3, h4⟩
  exact ⟨h1, h2, h3, WX.moved (U := U.calling g mk a) (State.WarmedH.refl U) (fun _ _ _ => rfl) h4⟩
theorem run_go {mc ms : Nat} {rest st0 : List Value} {Qa : State → Outcome → State → Prop} (hr : va_Run p l e R s m args below meth c H locs cells slots mc ms (F0 m pc ls st0) rest Qa (fun q => base ≤ q)) (hS : va_S (fun q => base ≤ q) s.heap H locs)
    (kk : ∀ (v : Option Value) (u t : State) (H1 : Heap) (locs1 : List Loc), u.heap = H → t.heap = H1 → Qa u (.returned v) t → (∀ q ∈ locs1, base ≤ q.base) → W p l e R s m args below meth c H1 locs1 (cells + mc) (slots + ms) Q (F0 m (pc + 3) ls (v.toList ++ rest))) : W p l e R s m args below meth c H locs cells slots Q (F0 m pc ls st0) := by
  intro T hT X
  obtain ⟨v, u, t, T', L1, h0, X', hL, e1, e2, hQ, stp1⟩ := hr T hT X
  obtain ⟨t2, a1, b1⟩ := kk v u t T'.heap (locs ++ L1) h0 e1.symm hQ (fun q hq => by
    rcases List.mem_append.mp hq with h | h
    · exact hS.2.2 q h
    · exact hL q h) T' rfl X'
  exact ⟨t2, stp1 t2 a1, b1⟩
theorem takeA_inv {n : Nat} {r as acc : List Value} (h : takeA n st acc = some (as, r)) : ∃ as2, as = as2 ++ acc ∧ as2.length = n ∧ st = as2.reverse ++ r := by
  induction n generalizing st acc with
  | zero =>
    cases h
    exact ⟨[], rfl, rfl, rfl⟩
  | succ n ih =>
    cases st with
    | nil => cases h
    | cons v st =>
      obtain ⟨as2, e1, e2, e3⟩ := ih (show takeA n st (v :: acc) = some (as, r) from h)
      refine ⟨as2 ++ [v], by rw [e1]; simp, by simp [e2], by rw [e3]; simp⟩
theorem mT_in {t : Nat} {x : MTy} (h : asc mT t = some x) : (t, x) ∈ mT := asc_mem h
theorem mT_plain {t : Nat} {x : MTy} (h : asc mT t = some x) : x.2.1.cls = clsN x.1 ∧ x.2.1.cls ≠ "java/lang/invoke/MethodHandle" ∧ x.2.1.cls ≠ "java/lang/invoke/VarHandle" ∧ (parseMethodDescriptor x.2.1.desc).map (fun d => d.parameters.length) = some x.2.2.2.2.2.1 ∧ x.2.2.2.1 ≤ 40 ∧ plainFor x.2.1 = true ∧ x.1 < 10 ∧ (parseMethodDescriptor x.2.1.desc).map (fun d => d.returnType) = some x.2.2.2.2.1 := by
  have h1 := List.all_eq_true.mp plainT _ (mT_in h)
  unfold mPlain at h1
  obtain ⟨h1, a8⟩ := andT h1
  obtain ⟨h1, a7⟩ := andT h1
  obtain ⟨h1, a6⟩ := andT h1
  obtain ⟨h1, a5⟩ := andT h1
  obtain ⟨h1, a4⟩ := andT h1
  obtain ⟨h1, a3⟩ := andT h1
  obtain ⟨a1, a2⟩ := andT h1
  exact ⟨of_decide_eq_true a1, of_decide_eq_true a2, of_decide_eq_true a3, of_decide_eq_true a4, bleT a5, a6, bltT a7, of_decide_eq_true a8⟩
theorem mT_chk : (mT.all fun x => (x.2.2.2.2.2.2.2.1 || Nat.blt x.2.1 8) && (!x.2.2.2.2.2.2.2.2 || (decide (x.2.2.2.2.2.1 = none) && decide (x.2.2.1.name = "<init>")))) = true := by decide +kernel
theorem noStat (x : MTy) (t : Nat) (h : asc mT t = some x) (h2 : x.2.2.2.2.2.2.1 = false) : x.1 < 8 := by
  have h1 := (andT (List.all_eq_true.mp mT_chk _ (mT_in h))).1
  dsimp only at h1
  rw [h2, Bool.false_or] at h1
  exact bltT h1
theorem iniRet (x : MTy) (t : Nat) (h : asc mT t = some x) (h2 : x.2.2.2.2.2.2.2 = true) : x.2.2.2.2.1 = none := by
  have h1 := (andT (List.all_eq_true.mp mT_chk _ (mT_in h))).2
  dsimp only at h1
  rw [h2, Bool.not_true, Bool.false_or] at h1
  exact of_decide_eq_true (andT h1).1
theorem iniName (x : MTy) (t : Nat) (h : asc mT t = some x) (h2 : x.2.2.2.2.2.2.2 = true) : x.2.1.name = "<init>" := by
  have h1 := (andT (List.all_eq_true.mp mT_chk _ (mT_in h))).2
  dsimp only at h1
  rw [h2, Bool.not_true, Bool.false_or] at h1
  exact of_decide_eq_true (andT h1).2
theorem ynm_of {t : Nat} {x : MTy} (h : asc mT t = some x) : ynm t = x.2.1 := by
  unfold ynm
  rw [h]
theorem good_wsD {t : Nat} {x : MTy} (h : asc mT t = some x) : GoodIn TS (wsD x) := by
  intro w hw
  rcases List.mem_cons.mp hw with rfl | hw
  · exact ⟨ts_in (codeT _ (mT_in h)) goodCO, good_of_word goodCO⟩
  · exact ⟨hw, good_of_word (List.mem_filter.mp hw).2⟩
theorem good1 {w : Cond} (h : w ∈ lw_tbl) (g : goodWord w = true) : w ∈ TS ∧ ((w.onTables && w.keeps) = true ∨ ∃ ty, w = .arrayClass ty) := ⟨ts_in h g, good_of_word g⟩
theorem FE.fix (hF : FE p s m args meth c cc cls nL ini sc base wA ad D cs) : CallFix p m c cc nL s args TS (clsN cls) := ⟨hF.1, hF.2.1, hF.2.2.1, hF.2.2.2.1, hF.ts⟩
theorem FE.preS (hF : FE p s m args meth c cc cls nL ini sc base wA ad D cs) {as : List Value} (hP : va_P D vwCl (wld ad cs σ) H) (hS : va_S (fun q => base ≤ q) s.heap H locs) (hz : H.size = base + σ.1) : PreS s H (PcD base wA ad D cs as σ) (as.map (cv ad)) :=
  ⟨PcD_blind, fun U hU hW => ⟨rfl, by rw [hU]; exact hz, by rw [hU]; exact hP, WX.moved hW (fun q h1 h2 => by rw [hU]; exact hS.2.1 q h1 h2) hF.2.2.2.2.2.2.1⟩⟩
/-- behind a call -/
theorem call_end {rest : List Value} {v : Option Value} (hF : FE p s m args meth c cc cls nL ini sc base wA ad D cs) (hS : va_S (fun q => base ≤ q) s.heap H locs) (hl : lvR ad ls nL L) (kk : KK p l e R s m args below meth c cells slots Q nL base ad D cs σ σ1 (pc + 3, L, v.toList ++ rest)) {a : Array Value}
    (hr : va_Run p l e R s m args below meth c H locs cells slots (σ1.1 - σ.1) (σ1.2.1 - σ.2.1) (F0 m pc ls (st.map (cv ad))) (rest.map (cv ad)) (QcD base ad D cs v σ1 a) (fun q => base ≤ q)) : W p l e R s m args below meth c H locs cells slots Q (F0 m pc ls (st.map (cv ad))) := by
  refine run_go hr hS (fun v' u t' H1 locs1 hu ht hQ hL1 => ?_)
  obtain ⟨h1, h2, h3⟩ := hQ
  have hv : v' = v.map (cv ad) := by
    cases h1
    rfl
  subst hv
  subst ht
  have K := kk t'.heap locs1 ls h2 ⟨Nat.le_trans hS.1 (by rw [← hu]; exact h3.1), fun q hq hn => by
    rw [h3.2 q (by rw [hu]; exact Nat.lt_of_lt_of_le hq hS.1) hn, hu]
    exact hS.2.1 q hq hn, hL1⟩ hl
  have e : (v.map (cv ad)).toList ++ rest.map (cv ad) = (v.toList ++ rest).map (cv ad) := by
    cases v <;> simp
  rw [e]
  exact K
theorem cal_ok (hF : FE p s m args meth c cc cls nL ini sc base wA ad D cs) (hσ : σ.1 ≤ 4400) {q : Instr × Nat} (hq : decode cc pc = .ok q) (hok : insOk q = true) (hP : va_P D vwCl (wld ad cs σ) H) (hS : va_S (fun q => base ≤ q) s.heap H locs) (hl : lvR ad ls nL L) {d : Nat} (hR : d + 1 ≤ R.frames ∧ 64 * (d + 1) ≤ R.locals) (hsz : s.heap.size + cells = base + σ.1) (hc : cells + (σ1.1 - σ.1) ≤ R.cells) (hs : slots + (σ1.2.1 - σ.2.1) ≤ R.slots) {t : Nat} {as rest : List Value} {v : Option Value} (kk : KK p l e R s m args below meth c cells slots Q nL base ad D cs σ σ1 (pc + 3, L, v.toList ++ rest)) (h : cal σ.1 cls q.1 st = some (t, as, rest)) (hC : CT l base wA ad D cs d t as σ v σ1) : W p l e R s m args below meth c H locs cells slots Q (F0 m pc ls (st.map (cv ad))) := by
  refine W_size (fun hz0 => ?_)
  have hz := H_size hF hσ hP hS hsz hz0
  obtain ⟨ins, ln⟩ := q
  have hsz2 : ls.size = nL := by
    obtain ⟨-, lv, hlv, -⟩ := hl
    exact hlv.1
  unfold cal at h
  split at h
  · -- static
    rename_i ins0 k0 eI
    dsimp only at eI
    subst eI
    obtain rfl := beqT hok
    split at h
    · rename_i t0 fl et
      split at h
      · rename_i x ex
        obtain ⟨hst, h⟩ := bif_inv h
        split at h
        · rename_i as0 r0 eA
          obtain ⟨hlen, h⟩ := bif_inv h
          cases h
          obtain ⟨as2, e1, e2, e3⟩ := takeA_inv eA
          rw [List.append_nil] at e1
          subst e1
          subst e3
          have hM := hC x ex
          have hpl := mT_plain ex
          have hR2 : (rmD d (σ1.1 - σ.1) (σ1.2.1 - σ.2.1)).frames + 1 ≤ R.frames ∧ 8 + (x.2.2.2.1 + 11) + (rmD d (σ1.1 - σ.1) (σ1.2.1 - σ.2.1)).locals ≤ R.locals := ⟨hR.1, by show 8 + (x.2.2.2.1 + 11) + 64 * d ≤ R.locals; have := hpl.2.2.2.2.1; omega⟩
          have hSt : Cond.static x.2.1 ∈ lw_tbl := by
            rcases kindT _ (mT_in ex) with ⟨-, h1⟩ | ⟨h1, -⟩ | ⟨h1, -⟩
            · exact h1
            · rw [h1] at hst
              cases hst
            · rw [h1] at hst
              cases hst
          have hst1 : (as.reverse ++ rest).map (cv ad) = (as.map (cv ad)).reverse ++ rest.map (cv ad) := by simp
          rcases mlT cls _ (asc_mem et) with ⟨-, hlk⟩ | ⟨-, hlk⟩
          · have hlk2 : Cond.methodLink (clsN cls) k0 x.2.1 ∈ lw_tbl := by rw [← ynm_of ex]; exact hlk
            refine call_end hF hS hl kk (va_runS (As := as.map (cv ad)) (g := F0 m pc ls ((as.reverse ++ rest).map (cv ad))) hF.fix hM (va_cwS x.2.2.2.2.2.1 hF.ts ?_ rfl rfl rfl ⟨hpl.2.1, hpl.2.2.1, hpl.2.2.2.1⟩ hR2) (hF.preS hP hS hz) rfl (by simp [e2]) hsz2 hst1 (lv_room (rest_sum (bleT hlen))) hq ⟨hc, hs⟩)
            intro w hw
            rcases List.mem_append.mp hw with h1 | h1
            · simp only [List.mem_cons, List.not_mem_nil, or_false] at h1
              rcases h1 with rfl | rfl | rfl
              · exact good1 hlk2 goodML
              · exact good1 hSt goodST
              · exact good1 (iniT _ (mT_in ex)) goodIN
            · exact good_wsD ex w h1
          · have hnw := hF.2.2.2.2.2.2.1.2.2.2.1 _ hlk
            rw [ynm_of ex] at hnw
            exact call_end hF hS hl kk (va_runSN (As := as.map (cv ad)) (g := F0 m pc ls ((as.reverse ++ rest).map (cv ad))) hF.fix hM ⟨va_cnB x.2.2.2.2.2.1 hF.ts (good_wsD ex) rfl rfl rfl hnw (hF.w (iniT _ (mT_in ex)) goodIN) ⟨hpl.2.1, hpl.2.2.1, hpl.2.2.2.1⟩ hR2, hF.w hSt goodST, trivial⟩ (hF.preS hP hS hz) rfl (by simp [e2]) hsz2 hst1 (lv_room (rest_sum (bleT hlen))) hq ⟨hc, hs⟩)
        · cases h
      · cases h
    · cases h
  · -- virtual
    rename_i ins0 k0 eI
    dsimp only at eI
    subst eI
    obtain rfl := beqT hok
    split at h
    · rename_i t0 fl et
      split at h
      · rename_i x ex
        obtain ⟨hst, h⟩ := bif_inv h
        obtain ⟨hst1, hst2⟩ := andT hst
        split at h
        · rename_i as0 v0 r0 eA
          obtain ⟨hb, h⟩ := bif_inv h
          cases h
          obtain ⟨hrv, hlen⟩ := andT hb
          obtain ⟨as2, e1, e2, e3⟩ := takeA_inv eA
          rw [List.append_nil] at e1
          subst e1
          subst e3
          have hM := hC x ex
          have hpl := mT_plain ex
          have hR2 : (rmD d (σ1.1 - σ.1) (σ1.2.1 - σ.2.1)).frames + 1 ≤ R.frames ∧ 8 + (x.2.2.2.1 + 11) + (rmD d (σ1.1 - σ.1) (σ1.2.1 - σ.2.1)).locals ≤ R.locals := ⟨hR.1, by show 8 + (x.2.2.2.1 + 11) + 64 * d ≤ R.locals; have := hpl.2.2.2.2.1; omega⟩
          obtain ⟨hIM, hSE⟩ : Cond.instanceMethod x.2.1 ∈ lw_tbl ∧ Cond.selects x.2.1.cls x.2.1 x.2.1 ∈ lw_tbl := by
            rcases kindT _ (mT_in ex) with ⟨h1, -⟩ | ⟨-, h1, -⟩ | ⟨-, -, h1, h2⟩
            · rw [h1] at hst1
              cases hst1
            · rw [h1] at hst2
              cases hst2
            · exact ⟨h1, h2⟩
          have hx8 : x.1 < 8 := by
            have hz := fun (h : x.2.2.2.2.2.2.1 = false) => noStat x t ex h
            exact hz (notT hst1)
          cases v0 with
          | ref o =>
            obtain ⟨hK, ho⟩ := andT hrv
            have hst3 : (as0.reverse ++ Value.ref o :: rest).map (cv ad) = (as0.map (cv ad)).reverse ++ Value.ref (ad o) :: rest.map (cv ad) := by simp [cv]
            rcases mlT cls _ (asc_mem et) with ⟨-, hlk⟩ | ⟨-, hlk⟩
            · have hlk2 : Cond.methodLink (clsN cls) k0 x.2.1 ∈ lw_tbl := by rw [← ynm_of ex]; exact hlk
              have hpre : PreV s H (clsN x.1) (ad o) (PcD base wA ad D cs (Value.ref o :: as0) σ) (as0.map (cv ad)) := ⟨PcD_blind, va_recv hF.2.2.2.2.2.2.1.1 hP (vwT x.1 hx8) (q0 := o) (by rw [wld_get (bltT ho), elmO (beqT hK) hx8]), (hF.preS (as := Value.ref o :: as0) hP hS hz).2⟩
              refine call_end hF hS hl kk (va_runV (As := as0.map (cv ad)) (g := F0 m pc ls ((as0.reverse ++ Value.ref o :: rest).map (cv ad))) hF.fix hM (cwV x.2.2.2.2.2.1 hF.ts ?_ rfl rfl rfl ⟨hpl.1, hpl.2.1, hpl.2.2.1, hpl.2.2.2.1⟩ hR2) hpre rfl (by simp [e2]) hsz2 hst3 (lv_room (rest_sum (bleT hlen))) hq ⟨hc, hs⟩)
              intro w hw
              rcases List.mem_append.mp hw with h1 | h1
              · simp only [List.mem_cons, List.not_mem_nil, or_false] at h1
                rcases h1 with rfl | rfl | rfl | rfl
                · exact good1 hlk2 goodML
                · exact good1 hIM goodIM
                · rw [← hpl.1]
                  exact good1 hSE goodSE
                · rw [← hpl.1]
                  exact good1 (iniT _ (mT_in ex)) goodIN
              · exact good_wsD ex w h1
            · have hnw := hF.2.2.2.2.2.2.1.2.2.2.1 _ hlk
              rw [ynm_of ex] at hnw
              have hpre : PreV s H x.2.1.cls (ad o) (PcD base wA ad D cs (Value.ref o :: as0) σ) (as0.map (cv ad)) := ⟨PcD_blind, by rw [hpl.1]; exact va_recv hF.2.2.2.2.2.2.1.1 hP (vwT x.1 hx8) (q0 := o) (by rw [wld_get (bltT ho), elmO (beqT hK) hx8]), (hF.preS (as := Value.ref o :: as0) hP hS hz).2⟩
              exact call_end hF hS hl kk (va_runVN (As := as0.map (cv ad)) (g := F0 m pc ls ((as0.reverse ++ Value.ref o :: rest).map (cv ad))) hF.fix hM ⟨va_cnB x.2.2.2.2.2.1 hF.ts (good_wsD ex) rfl rfl rfl hnw (hF.w (iniT _ (mT_in ex)) goodIN) ⟨hpl.2.1, hpl.2.2.1, hpl.2.2.2.1⟩ hR2, hF.w hIM goodIM, hF.w hSE goodSE⟩ hpre rfl (by simp [e2]) hsz2 hst3 (lv_room (rest_sum (bleT hlen))) hq ⟨hc, hs⟩)
          | _ => cases hrv
        · cases h
      · cases h
    · cases h
  · -- constructors
    rename_i ins0 k0 eI
    dsimp only at eI
    subst eI
    obtain rfl := beqT hok
    split at h
    · rename_i t0 fl et
      split at h
      · rename_i x ex
        obtain ⟨hst, h⟩ := bif_inv h
        obtain ⟨hst1, hst2⟩ := andT hst
        split at h
        · rename_i as0 v0 r0 eA
          obtain ⟨hb, h⟩ := bif_inv h
          cases h
          obtain ⟨hrv, hlen⟩ := andT hb
          obtain ⟨as2, e1, e2, e3⟩ := takeA_inv eA
          rw [List.append_nil] at e1
          subst e1
          subst e3
          have hM := hC x ex
          have hpl := mT_plain ex
          have hR2 : (rmD d (σ1.1 - σ.1) (σ1.2.1 - σ.2.1)).frames + 1 ≤ R.frames ∧ 8 + (x.2.2.2.1 + 11) + (rmD d (σ1.1 - σ.1) (σ1.2.1 - σ.2.1)).locals ≤ R.locals := ⟨hR.1, by show 8 + (x.2.2.2.1 + 11) + 64 * d ≤ R.locals; have := hpl.2.2.2.2.1; omega⟩
          obtain ⟨hnm, hIM⟩ : x.2.1.name = "<init>" ∧ Cond.instanceMethod x.2.1 ∈ lw_tbl := by
            rcases kindT _ (mT_in ex) with ⟨h1, -⟩ | ⟨-, -, h1, h2⟩ | ⟨-, h1, -⟩
            · rw [h1] at hst1
              cases hst1
            · exact ⟨h1, h2⟩
            · rw [h1] at hst2
              cases hst2
          have hret : x.2.2.2.2.1 = none := iniRet x t ex hst2
          cases v0 with
          | ref o =>
            have hst3 : (as0.reverse ++ Value.ref o :: rest).map (cv ad) = (as0.map (cv ad)).reverse ++ Value.ref (ad o) :: rest.map (cv ad) := by simp [cv]
            have hw : wsD x = Cond.code x.2.1 x.2.2.1 x.2.2.2.1 none :: TS := by unfold wsD; rw [hret]
            rcases mlT cls _ (asc_mem et) with ⟨-, hlk⟩ | ⟨-, hlk⟩
            · have hlk2 : Cond.methodLink (clsN cls) k0 x.2.1 ∈ lw_tbl := by rw [← ynm_of ex]; exact hlk
              exact call_end hF hS hl kk (va_runI (As := as0.map (cv ad)) (g := F0 m pc ls ((as0.reverse ++ Value.ref o :: rest).map (cv ad))) hF.fix hM (cwI x.2.2.2.2.2.1 hF.ts (good_wsD ex) hw rfl rfl (hF.w (iniT _ (mT_in ex)) goodIN) (hF.w hlk2 goodML) (hF.w hIM goodIM) hnm ⟨hpl.2.1, hpl.2.2.1, hpl.2.2.2.1⟩ hR2) (hF.preS (as := Value.ref o :: as0) hP hS hz) rfl (by simp [e2]) hsz2 hst3 (lv_room (rest_sum (bleT hlen))) hq ⟨hc, hs⟩)
            · have hnw := hF.2.2.2.2.2.2.1.2.2.2.1 _ hlk
              rw [ynm_of ex] at hnw
              exact call_end hF hS hl kk (va_runIN (As := as0.map (cv ad)) (g := F0 m pc ls ((as0.reverse ++ Value.ref o :: rest).map (cv ad))) hF.fix hM ⟨va_cnB x.2.2.2.2.2.1 hF.ts (good_wsD ex) hw rfl rfl hnw (hF.w (iniT _ (mT_in ex)) goodIN) ⟨hpl.2.1, hpl.2.2.1, hpl.2.2.2.1⟩ hR2, hnm, hF.w hIM goodIM⟩ (hF.preS (as := Value.ref o :: as0) hP hS hz) rfl (by simp [e2]) hsz2 hst3 (lv_room (rest_sum (bleT hlen))) hq ⟨hc, hs⟩)
          | _ => cases hrv
        · cases h
      · cases h
    · cases h
  · cases h
/-! runs within a frame -/
theorem mle_inv {a b : Mem} (h : mle a b = true) : a.1 ≤ b.1 ∧ a.2.1 ≤ b.2.1 := ⟨bleT (andT h).1, bleT (andT h).2⟩
theorem go_mono {call : Nat → List Value → Mem → Option Value → Mem → Prop} {mi : Nat} {ret : Option FieldType} {n : Nat} {r : Option Value} {σ' : Mem} (h : Go call mi cls ini ret sc n pc L st σ r σ') : σ.1 ≤ σ'.1 ∧ σ.2.1 ≤ σ'.2.1 := by
  induction n generalizing pc L st σ with
  | zero => exact h.elim
  | succ n ih =>
    obtain ⟨q, -, ⟨F, σ1, -, h1, h2⟩ | ⟨-, rfl⟩ | ⟨t, as, rest, v, σ1, -, -, h1, h2⟩⟩ := h
    · have := mle_inv h1
      have := ih h2
      omega
    · exact ⟨Nat.le_refl _, Nat.le_refl _⟩
    · have := mle_inv h1
      have := ih h2
      omega
theorem go_ok (hF : FE p s m args meth c cc cls nL ini sc base wA ad D cs) {mi : Nat} (hcd : ∀ q ∈ cdT mi, decode cc q.1 = .ok q.2) (hio : ∀ q ∈ cdT mi, insOk q.2 = true) {call : Nat → List Value → Mem → Option Value → Mem → Prop} {d : Nat} (hcall : ∀ t as σ v σ1, σ1.1 ≤ 4400 → call t as σ v σ1 → CT l base wA ad D cs d t as σ v σ1) (hR : d + 1 ≤ R.frames ∧ 64 * (d + 1) ≤ R.locals) {ret : Option FieldType} {r : Option Value} {σ' : Mem} (hσ' : σ'.1 ≤ 4400)
    (fin : ∀ (pc : Nat) (ins : Instr) (ln : Nat) (L st : List Value) (H : Heap) (locs : List Loc) (ls : Array Slot) (cells slots : Nat), decode cc pc = .ok (ins, ln) → insOk (ins, ln) = true → rtn ret ins st = some r → va_P D vwCl (wld ad cs σ') H → va_S (fun q => base ≤ q) s.heap H locs → lvR ad ls nL L → s.heap.size + cells = base + σ'.1 → cells ≤ R.cells → slots ≤ R.slots → W p l e R s m args below meth c H locs cells slots Q (F0 m pc ls (st.map (cv ad)))) :
    ∀ (n pc : Nat) (L st : List Value) (σ : Mem) (H : Heap) (locs : List Loc) (ls : Array Slot) (cells slots : Nat), Go call mi cls ini ret sc n pc L st σ r σ' → va_P D vwCl (wld ad cs σ) H → va_S (fun q => base ≤ q) s.heap H locs → lvR ad ls nL L → s.heap.size + cells = base + σ.1 → cells + (σ'.1 - σ.1) ≤ R.cells → slots + (σ'.2.1 - σ.2.1) ≤ R.slots → W p l e R s m args below meth c H locs cells slots Q (F0 m pc ls (st.map (cv ad))) := by
  intro n
  induction n with
  | zero =>
    intro pc L st σ H locs ls cells slots hg
    exact hg.elim
  | succ n ih =>
    intro pc L st σ H locs ls cells slots hg hP hS hl hsz hc hs
    have hmono := go_mono hg
    obtain ⟨q, hq, hcase⟩ := hg
    have hqm := asc_mem hq
    have hdec := hcd _ hqm
    have hin := hio _ hqm
    dsimp only at hdec hin
    rcases hcase with ⟨F, σ1, h1, h2, h3⟩ | ⟨h1, h2⟩ | ⟨t, as, rest, v, σ1, h1, h2, h3, h4⟩
    · have m1 := mle_inv h2
      have m2 := go_mono h3
      refine stp_ok hF (by omega) hdec hin hP hS hl ⟨by omega, by omega⟩ hsz (by omega) (by omega) (fun H' locs' ls' hP' hS' hl' => ?_) h1
      exact ih F.1 F.2.1 F.2.2 σ1 H' locs' ls' _ _ h3 hP' hS' hl' (by omega) (by omega) (by omega)
    · subst h2
      exact fin pc q.1 q.2 L st H locs ls cells slots hdec hin h1 hP hS hl hsz (by omega) (by omega)
    · have m1 := mle_inv h3
      have m2 := go_mono h4
      refine cal_ok hF (by omega) hdec hin hP hS hl hR hsz (by omega) (by omega) (fun H' locs' ls' hP' hS' hl' => ?_) h1 (hcall t as σ v σ1 (by omega) h2)
      exact ih (pc + 3) L (v.toList ++ rest) σ1 H' locs' ls' _ _ h4 hP' hS' hl' (by omega) (by omega) (by omega)
end RUN
section EV
theorem nth_pad {L : List Value} {n i : Nat} : nth (L ++ List.replicate n UU) i = nth L i := by
  induction L generalizing i with
  | nil =>
    rw [List.nil_append]
    induction n generalizing i with
    | zero => rfl
    | succ n ih =>
      cases i with
      | zero => rfl
      | succ i => exact ih (i := i)
  | cons a l ih =>
    cases i with
    | zero => rfl
    | succ i => exact ih
theorem ent_mem {ad : Nat → Nat} (as : List Value) : ∀ (i k : Nat), nth (entL as) i ≠ UU → (k + i, cv ad (nth (entL as) i)) ∈ lv_args k (as.map (cv ad)) := by
  induction as with
  | nil => exact fun i k h => absurd rfl h
  | cons v vs ih =>
    intro i k h
    unfold entL at h ⊢
    rw [List.map_cons]
    unfold lv_args
    rw [cat_lg]
    cases hv : isLg v with
    | true =>
      rw [hv] at h
      match i, h with
      | 0, _ => exact List.mem_cons_self
      | 1, h => exact absurd rfl h
      | i + 2, h =>
        refine List.mem_cons_of_mem _ ?_
        have := ih i (k + 2) h
        rw [show k + (i + 2) = k + 2 + i by omega]
        exact this
    | false =>
      rw [hv] at h
      match i, h with
      | 0, _ => exact List.mem_cons_self
      | i + 1, h =>
        refine List.mem_cons_of_mem _ ?_
        have := ih i (k + 1) h
        rw [show k + (i + 1) = k + 1 + i by omega]
        exact this
theorem ent_len {ad : Nat → Nat} (as : List Value) : (lg_sl (as.map (cv ad))).length = (entL as).length := by
  induction as with
  | nil => rfl
  | cons v vs ih =>
    have e : lg_sl ((v :: vs).map (cv ad)) = (if (cv ad v).category = 2 then [.val (cv ad v), .second] else [.val (cv ad v)]) ++ lg_sl (vs.map (cv ad)) := by
      simp [lg_sl]
    rw [e, cat_lg]
    unfold entL
    cases hv : isLg v with
    | true =>
      simp [ih]
    | false =>
      simp [ih]
theorem pad_len {n : Nat} {L : List Value} (h : L.length ≤ n) : (padL n L).length = n := by
  unfold padL
  simp
  omega
theorem ev_ok {l : Launch} {base wA : Nat} {ad : Nat → Nat} {D : va_G} {cs : CS} (had : ∀ i, i < 4500 → ad i = base + i) (hwA : ad 5000 = wA) : ∀ (d t : Nat) (as : List Value) (σ : Mem) (v : Option Value) (σ' : Mem), σ'.1 ≤ 4400 → Ev d t as σ v σ' → CT l base wA ad D cs d t as σ v σ' := by
  intro d
  induction d with
  | zero =>
    intro t as σ v σ' _ h
    exact h.elim
  | succ d ih =>
    intro t as σ v σ' hσ' h x hx
    obtain ⟨x', hx', hlen, n, hg⟩ := h
    cases hx'.symm.trans hx
    have hmono := go_mono hg
    have hpl := mT_plain hx
    have hlen2 := bleT hlen
    refine va_MetF (cc := x.2.2.1) (maxL := x.2.2.2.1) (ret := x.2.2.2.2.1) hpl.2.2.2.2.2.1 rfl ?_
    intro p e s m args below meth c s₁ B hml hPc
    obtain ⟨hargs, hsz0, hP, hX⟩ := hPc
    have hts := atoms_spec (ws := wsD x) B.pre
    have hown : s.vm.findClass (clsN x.1) = some m.cls := by
      rw [← hpl.1]
      exact findClass_of_methodNamed B.named
    have hF : FE p s m args meth c x.2.2.1 x.1 x.2.2.2.1 x.2.2.2.2.2.2.2 sc0 base wA ad D cs := ⟨B.exec, B.bytes, hml, hown, fun w hw hg => hts w (List.mem_cons_of_mem _ (ts_in hw hg)), fun hi => (name_of_methodNamed B.named B.method).1.trans (iniName x t hx hi), hX, had, hwA, (fun h => by cases h), by omega⟩
    subst hargs
    have hl := lv_entry (as.map (cv ad)) (n := x.2.2.2.1) (by rw [ent_len]; exact hlen2)
    rw [lg_entry_eq]
    generalize (lg_sl (as.map (cv ad)) ++ List.replicate (x.2.2.2.1 - (lg_sl (as.map (cv ad))).length) Slot.unset).toArray = ls at hl ⊢
    have hlv : lvR ad ls x.2.2.2.1 (padL x.2.2.2.1 (entL as)) := by
      refine ⟨pad_len hlen2, _, hl, fun i hi => ?_⟩
      unfold padL at hi ⊢
      rw [nth_pad] at hi ⊢
      have := ent_mem (ad := ad) as i 0 hi
      rw [Nat.zero_add] at this
      exact this
    refine go_ok hF (ckT _ (mT_in hx)) (fun q hq => List.all_eq_true.mp (List.all_eq_true.mp insT1 _ (mT_in hx)) q hq) (fun t as σ v σ1 hb hc => ih t as σ v σ1 hb hc) ⟨Nat.le_refl _, Nat.le_refl _⟩ hσ' ?_ n 0 _ [] σ s.heap [] ls 0 0 hg hP va_S.rf hlv (by omega) (by rw [Nat.zero_add]; exact Nat.le_refl _) (by rw [Nat.zero_add]; exact Nat.le_refl _)
    intro pc ins ln L st H locs ls cells slots hdec hin hr hP hS hl hsz hc hs
    refine W.widen (k := σ'.1 - σ.1) (n := σ'.2.1 - σ.2.1) hc hs ?_
    have hlocks := B.notSynchronized
    have hret := B.returns
    unfold rtn at hr
    split at hr
    · obtain rfl := beqT hin
      split at hr
      · rename_i z
        split at hr
        · rename_i er
          rw [er] at hret
          cases hr
          exact W.iret hF.1 hF.2.1 hret (fun u hu hW => ⟨rfl, by rw [hu]; exact hP, hS.F hu⟩) hS.2.2 hdec
        · rename_i er
          rw [er] at hret
          obtain ⟨h01, hr⟩ := ite_inv hr
          cases hr
          exact W.zret hF.1 hF.2.1 hret (nb01 h01).1 (fun u hu hW => ⟨rfl, by rw [hu]; exact hP, hS.F hu⟩) hS.2.2 hdec
        · cases hr
      · cases hr
    · obtain rfl := beqT hin
      split at hr
      · rename_i z
        split at hr
        · rename_i nm er
          rw [er] at hret
          cases hr
          exact W.aret hF.1 hF.2.1 hret (Or.inl ⟨_, rfl⟩) (Or.inr ⟨_, rfl⟩) (fun u hu hW => ⟨rfl, by rw [hu]; exact hP, hS.F hu⟩) hS.2.2 hdec
        · cases hr
      · cases hr
    · obtain rfl := beqT hin
      split at hr
      · split at hr
        · rename_i er
          rw [er] at hret
          cases hr
          exact W.vret hF.1 hF.2.1 hret (fun u hu hW => ⟨rfl, by rw [hu]; exact hP, hS.F hu⟩) hS.2.2 hdec
        · cases hr
      · cases hr
    · cases hr
end EV

