/-! one step -/
section INV
variable {pc : Nat} {off : Int} {L st : List Value} {σ σ1 : Mem} {F : Frm} {k len : Nat}
theorem tg_inv {t : Nat} (h : tg pc off = some t) : (pc : Int) + off = (t : Int) := by
  unfold tg at h
  split at h
  · rename_i e
    cases h
    exact e
  · cases h
theorem jc_inv {c : Prop} [Decidable c] (h : jc c pc off L st σ = some (F, σ1)) : ∃ t : Nat, (pc : Int) + off = (t : Int) ∧ F = (if c then t else pc + 3, L, st) ∧ σ1 = σ := by
  unfold jc at h
  split at h
  · rename_i t e
    cases h
    exact ⟨t, tg_inv e, rfl, rfl⟩
  · cases h
theorem jm_inv (h : jm pc off L st σ = some (F, σ1)) : ∃ t : Nat, (pc : Int) + off = (t : Int) ∧ F = (t, L, st) ∧ σ1 = σ := by
  unfold jm at h
  split at h
  · rename_i t e
    cases h
    exact ⟨t, tg_inv e, rfl, rfl⟩
  · cases h
theorem bin_inv {f : Int32 → Int32 → Int32} (h : bin f pc L st σ = some (F, σ1)) : ∃ x y r, st = .int y :: .int x :: r ∧ F = (pc + 1, L, .int (f x y) :: r) ∧ σ1 = σ := by
  unfold bin at h
  split at h
  · cases h
    exact ⟨_, _, _, rfl, rfl, rfl⟩
  · cases h
theorem una_inv {f : Int32 → Int32} (h : una f pc L st σ = some (F, σ1)) : ∃ x r, st = .int x :: r ∧ F = (pc + 1, L, .int (f x) :: r) ∧ σ1 = σ := by
  unfold una at h
  split at h
  · cases h
    exact ⟨_, _, rfl, rfl, rfl⟩
  · cases h
theorem ldI_inv (h : ldI len L k pc st σ = some (F, σ1)) : ∃ x, nth L k = .int x ∧ F = (pc + len, L, .int x :: st) ∧ σ1 = σ := by
  unfold ldI at h
  split at h
  · rename_i x e
    cases h
    exact ⟨_, e, rfl, rfl⟩
  · cases h
theorem ldA_inv (h : ldA len L k pc st σ = some (F, σ1)) : ∃ x, nth L k = .ref x ∧ F = (pc + len, L, .ref x :: st) ∧ σ1 = σ := by
  unfold ldA at h
  split at h
  · rename_i x e
    cases h
    exact ⟨_, e, rfl, rfl⟩
  · cases h
theorem ldL_inv (h : ldL len L k pc st σ = some (F, σ1)) : ∃ x, nth L k = .long x ∧ F = (pc + len, L, .long x :: st) ∧ σ1 = σ := by
  unfold ldL at h
  split at h
  · rename_i x e
    cases h
    exact ⟨_, e, rfl, rfl⟩
  · cases h
theorem bif_inv {α : Type} {b : Bool} {x : Option α} {y : α} (h : (bif b then x else none) = some y) : b = true ∧ x = some y := by
  cases b with
  | true => exact ⟨rfl, h⟩
  | false => cases h
theorem ite_inv {α : Type} {c : Prop} [Decidable c] {x : Option α} {y : α} (h : (if c then x else none) = some y) : c ∧ x = some y := by
  by_cases hc : c
  · rw [if_pos hc] at h
    exact ⟨hc, h⟩
  · rw [if_neg hc] at h
    cases h
theorem stI_inv (h : stI len L k pc st σ = some (F, σ1)) : ∃ x r, st = .int x :: r ∧ okS L k = true ∧ F = (pc + len, stL L k (.int x), r) ∧ σ1 = σ := by
  unfold stI at h
  split at h
  · obtain ⟨h1, h2⟩ := bif_inv h
    cases h2
    exact ⟨_, _, rfl, h1, rfl, rfl⟩
  · cases h
theorem stA_inv (h : stA len L k pc st σ = some (F, σ1)) : ∃ x r, st = .ref x :: r ∧ okS L k = true ∧ F = (pc + len, stL L k (.ref x), r) ∧ σ1 = σ := by
  unfold stA at h
  split at h
  · obtain ⟨h1, h2⟩ := bif_inv h
    cases h2
    exact ⟨_, _, rfl, h1, rfl, rfl⟩
  · cases h
end INV
theorem goodFL {a : String} {i : Nat} {b n d : String} : goodWord (.fieldLink a i b n d) = true := rfl
theorem goodML {a : String} {i : Nat} {x : MethodName} : goodWord (.methodLink a i x) = true := rfl
theorem goodCL {a : String} {i : Nat} {x : String} : goodWord (.classLink a i x) = true := rfl
theorem goodIM {x : MethodName} : goodWord (.instanceMethod x) = true := rfl
theorem goodST {x : MethodName} : goodWord (.static x) = true := rfl
theorem goodSE {a : String} {x y : MethodName} : goodWord (.selects a x y) = true := rfl
theorem goodIN {a : String} : goodWord (.initialized a) = true := rfl
theorem goodIS {a : String} {n : Nat} : goodWord (.instantiable a n) = true := rfl
theorem goodCO {x : MethodName} {b : ByteArray} {n : Nat} {r : Option FieldType} : goodWord (.code x b n r) = true := rfl
theorem goodC3 {a : String} {i : Nat} {v : Int32} : goodWord (.constant a i v) = true := rfl
theorem goodC6 {a : String} {i : Nat} {v : Int64} : goodWord (.constantLong a i v) = true := rfl
theorem goodAC {t : FieldType} : goodWord (.arrayClass t) = true := rfl
theorem goodNA {x : MethodName} : goodWord (.native x) = true := rfl
theorem goodLay {C : String} {T : u_T} {k : Nat} : goodWord (u_lay C T k) = true := by
  unfold u_lay
  split <;> rfl
theorem uws_lay {C : String} {T : u_T} {N : Nat} {w : Cond} (h : w ∈ u_ws C T N) : goodWord w = true := by
  unfold u_ws at h
  obtain ⟨k, -, rfl⟩ := List.mem_map.mp h
  exact goodLay
section STEP
variable {p : Program} {l : Launch} {e : Env} {R : Room} {s : State} {m : MethodId} {args : Array Value} {below : List Frame} {meth : Method} {c : Code} {H : Heap} {locs : List Loc} {cells slots : Nat} {Q : State → Prop}
variable {cc : ByteArray} {cls nL : Nat} {ini : Bool} {sc : Scr} {base wA : Nat} {ad : Nat → Nat} {D : va_G} {cs : CS} {pc : Nat} {ls : Array Slot} {L st : List Value} {σ σ1 : Mem} {F : Frm} {len : Nat}
/-- the goal behind a step, for every world that holds the new memory -/
def KK (p : Program) (l : Launch) (e : Env) (R : Room) (s : State) (m : MethodId) (args : Array Value) (below : List Frame) (meth : Method) (c : Code) (cells slots : Nat) (Q : State → Prop) (nL base : Nat) (ad : Nat → Nat) (D : va_G) (cs : CS) (σ σ1 : Mem) (F : Frm) : Prop :=
  ∀ (H' : Heap) (locs' : List Loc) (ls' : Array Slot), va_P D vwCl (wld ad cs σ1) H' → va_S (fun q => base ≤ q) s.heap H' locs' → lvR ad ls' nL F.2.1 → W p l e R s m args below meth c H' locs' (cells + (σ1.1 - σ.1)) (slots + (σ1.2.1 - σ.2.1)) Q (F0 m F.1 ls' (F.2.2.map (cv ad)))
theorem KK.same {H' : Heap} {locs' : List Loc} {ls' : Array Slot} (kk : KK p l e R s m args below meth c cells slots Q nL base ad D cs σ σ1 F) (h1 : σ1.1 = σ.1) (h2 : σ1.2.1 = σ.2.1) (hP : va_P D vwCl (wld ad cs σ1) H') (hS : va_S (fun q => base ≤ q) s.heap H' locs') (hl : lvR ad ls' nL F.2.1) : W p l e R s m args below meth c H' locs' cells slots Q (F0 m F.1 ls' (F.2.2.map (cv ad))) := by
  have h := kk H' locs' ls' hP hS hl
  rw [h1, h2, Nat.sub_self, Nat.sub_self] at h
  exact h
theorem wld_D (had : ∀ i, i < 4500 → ad i = base + i) (hσ : σ.1 ≤ 4400) : va_D (fun q => base ≤ q) (wld ad cs σ) := by
  refine ⟨fun i j x y hx hy hxy => ?_, fun k q hq => ?_⟩
  · obtain ⟨h1, rfl⟩ := wld_inv hx
    obtain ⟨h2, rfl⟩ := wld_inv hy
    have := hxy
    rw [had i (by omega), had j (by omega)] at this
    omega
  · obtain ⟨h1, rfl⟩ := wld_inv hq
    show base ≤ ad k
    rw [had k (by omega)]
    omega
theorem so_iload_n {k : Fin 4} (hF : FE p s m args meth c cc cls nL ini sc base wA ad D cs) (hq : decode cc pc = .ok (.iload_n k, 1)) (hP : va_P D vwCl (wld ad cs σ) H) (hS : va_S (fun q => base ≤ q) s.heap H locs) (hl : lvR ad ls nL L) (kk : KK p l e R s m args below meth c cells slots Q nL base ad D cs σ σ1 F) (h : ldI 1 L k pc st σ = some (F, σ1)) : W p l e R s m args below meth c H locs cells slots Q (F0 m pc ls (st.map (cv ad))) := by
  obtain ⟨x, hk, rfl, rfl⟩ := ldI_inv h
  exact lv_iload_n hF.1 hF.2.1 hq rfl (lvR_ld hl hk (by intro q; cases q)) (kk.same rfl rfl hP hS hl)
theorem so_iload {k : Nat} (hF : FE p s m args meth c cc cls nL ini sc base wA ad D cs) (hq : decode cc pc = .ok (.iload k, 2)) (hP : va_P D vwCl (wld ad cs σ) H) (hS : va_S (fun q => base ≤ q) s.heap H locs) (hl : lvR ad ls nL L) (kk : KK p l e R s m args below meth c cells slots Q nL base ad D cs σ σ1 F) (h : ldI 2 L k pc st σ = some (F, σ1)) : W p l e R s m args below meth c H locs cells slots Q (F0 m pc ls (st.map (cv ad))) := by
  obtain ⟨x, hk, rfl, rfl⟩ := ldI_inv h
  exact lv_iload hF.1 hF.2.1 hq (lvR_ld hl hk (by intro q; cases q)) (kk.same rfl rfl hP hS hl)
theorem so_aload_n {k : Fin 4} (hF : FE p s m args meth c cc cls nL ini sc base wA ad D cs) (hq : decode cc pc = .ok (.aload_n k, 1)) (hP : va_P D vwCl (wld ad cs σ) H) (hS : va_S (fun q => base ≤ q) s.heap H locs) (hl : lvR ad ls nL L) (kk : KK p l e R s m args below meth c cells slots Q nL base ad D cs σ σ1 F) (h : ldA 1 L k pc st σ = some (F, σ1)) : W p l e R s m args below meth c H locs cells slots Q (F0 m pc ls (st.map (cv ad))) := by
  obtain ⟨x, hk, rfl, rfl⟩ := ldA_inv h
  exact lv_aload_n hF.1 hF.2.1 hq rfl (lvR_ld hl hk (by intro q; cases q)) (kk.same rfl rfl hP hS hl)
theorem so_aload {k : Nat} (hF : FE p s m args meth c cc cls nL ini sc base wA ad D cs) (hq : decode cc pc = .ok (.aload k, 2)) (hP : va_P D vwCl (wld ad cs σ) H) (hS : va_S (fun q => base ≤ q) s.heap H locs) (hl : lvR ad ls nL L) (kk : KK p l e R s m args below meth c cells slots Q nL base ad D cs σ σ1 F) (h : ldA 2 L k pc st σ = some (F, σ1)) : W p l e R s m args below meth c H locs cells slots Q (F0 m pc ls (st.map (cv ad))) := by
  obtain ⟨x, hk, rfl, rfl⟩ := ldA_inv h
  exact lv_aload hF.1 hF.2.1 hq (lvR_ld hl hk (by intro q; cases q)) (kk.same rfl rfl hP hS hl)
theorem so_lload_n {k : Fin 4} (hF : FE p s m args meth c cc cls nL ini sc base wA ad D cs) (hq : decode cc pc = .ok (.lload_n k, 1)) (hP : va_P D vwCl (wld ad cs σ) H) (hS : va_S (fun q => base ≤ q) s.heap H locs) (hl : lvR ad ls nL L) (kk : KK p l e R s m args below meth c cells slots Q nL base ad D cs σ σ1 F) (h : ldL 1 L k pc st σ = some (F, σ1)) : W p l e R s m args below meth c H locs cells slots Q (F0 m pc ls (st.map (cv ad))) := by
  obtain ⟨x, hk, rfl, rfl⟩ := ldL_inv h
  exact lv_lload_n hF.1 hF.2.1 hq rfl (lvR_ld hl hk (by intro q; cases q)) (kk.same rfl rfl hP hS hl)
theorem so_lload {k : Nat} (hF : FE p s m args meth c cc cls nL ini sc base wA ad D cs) (hq : decode cc pc = .ok (.lload k, 2)) (hP : va_P D vwCl (wld ad cs σ) H) (hS : va_S (fun q => base ≤ q) s.heap H locs) (hl : lvR ad ls nL L) (kk : KK p l e R s m args below meth c cells slots Q nL base ad D cs σ σ1 F) (h : ldL 2 L k pc st σ = some (F, σ1)) : W p l e R s m args below meth c H locs cells slots Q (F0 m pc ls (st.map (cv ad))) := by
  obtain ⟨x, hk, rfl, rfl⟩ := ldL_inv h
  exact lv_lload hF.1 hF.2.1 hq (lvR_ld hl hk (by intro q; cases q)) (kk.same rfl rfl hP hS hl)
theorem so_istore_n {k : Fin 4} (hF : FE p s m args meth c cc cls nL ini sc base wA ad D cs) (hq : decode cc pc = .ok (.istore_n k, 1)) (hP : va_P D vwCl (wld ad cs σ) H) (hS : va_S (fun q => base ≤ q) s.heap H locs) (hl : lvR ad ls nL L) (kk : KK p l e R s m args below meth c cells slots Q nL base ad D cs σ σ1 F) (h : stI 1 L k pc st σ = some (F, σ1)) : W p l e R s m args below meth c H locs cells slots Q (F0 m pc ls (st.map (cv ad))) := by
  obtain ⟨x, r, rfl, hok, rfl, rfl⟩ := stI_inv h
  obtain ⟨hL, lv, hlv, hm⟩ := hl
  exact lv_istore_n hF.1 hF.2.1 hq rfl hlv (by rw [← hL]; exact okS_lt hok) rfl (fun ls' hl' => kk.same rfl rfl hP hS (lvR_st hL hm hok hl'))
theorem so_istore {k : Nat} (hF : FE p s m args meth c cc cls nL ini sc base wA ad D cs) (hq : decode cc pc = .ok (.istore k, 2)) (hP : va_P D vwCl (wld ad cs σ) H) (hS : va_S (fun q => base ≤ q) s.heap H locs) (hl : lvR ad ls nL L) (kk : KK p l e R s m args below meth c cells slots Q nL base ad D cs σ σ1 F) (h : stI 2 L k pc st σ = some (F, σ1)) : W p l e R s m args below meth c H locs cells slots Q (F0 m pc ls (st.map (cv ad))) := by
  obtain ⟨x, r, rfl, hok, rfl, rfl⟩ := stI_inv h
  obtain ⟨hL, lv, hlv, hm⟩ := hl
  exact lv_istore hF.1 hF.2.1 hq hlv (by rw [← hL]; exact okS_lt hok) rfl (fun ls' hl' => kk.same rfl rfl hP hS (lvR_st hL hm hok hl'))
theorem so_astore_n {k : Fin 4} (hF : FE p s m args meth c cc cls nL ini sc base wA ad D cs) (hq : decode cc pc = .ok (.astore_n k, 1)) (hP : va_P D vwCl (wld ad cs σ) H) (hS : va_S (fun q => base ≤ q) s.heap H locs) (hl : lvR ad ls nL L) (kk : KK p l e R s m args below meth c cells slots Q nL base ad D cs σ σ1 F) (h : stA 1 L k pc st σ = some (F, σ1)) : W p l e R s m args below meth c H locs cells slots Q (F0 m pc ls (st.map (cv ad))) := by
  obtain ⟨x, r, rfl, hok, rfl, rfl⟩ := stA_inv h
  obtain ⟨hL, lv, hlv, hm⟩ := hl
  exact lv_astore_n hF.1 hF.2.1 hq rfl hlv (by rw [← hL]; exact okS_lt hok) rfl (fun ls' hl' => kk.same rfl rfl hP hS (lvR_st hL hm hok hl'))
theorem so_iadd (hF : FE p s m args meth c cc cls nL ini sc base wA ad D cs) (hq : decode cc pc = .ok (.iadd, 1)) (hP : va_P D vwCl (wld ad cs σ) H) (hS : va_S (fun q => base ≤ q) s.heap H locs) (hl : lvR ad ls nL L) (kk : KK p l e R s m args below meth c cells slots Q nL base ad D cs σ σ1 F) (h : bin (fun x y => x + y) pc L st σ = some (F, σ1)) : W p l e R s m args below meth c H locs cells slots Q (F0 m pc ls (st.map (cv ad))) := by
  obtain ⟨x, y, r, rfl, rfl, rfl⟩ := bin_inv h
  exact lv_iadd hF.1 hF.2.1 hq (kk.same rfl rfl hP hS hl)
theorem so_isub (hF : FE p s m args meth c cc cls nL ini sc base wA ad D cs) (hq : decode cc pc = .ok (.isub, 1)) (hP : va_P D vwCl (wld ad cs σ) H) (hS : va_S (fun q => base ≤ q) s.heap H locs) (hl : lvR ad ls nL L) (kk : KK p l e R s m args below meth c cells slots Q nL base ad D cs σ σ1 F) (h : bin (fun x y => x - y) pc L st σ = some (F, σ1)) : W p l e R s m args below meth c H locs cells slots Q (F0 m pc ls (st.map (cv ad))) := by
  obtain ⟨x, y, r, rfl, rfl, rfl⟩ := bin_inv h
  exact lv_isub hF.1 hF.2.1 hq (kk.same rfl rfl hP hS hl)
theorem so_imul (hF : FE p s m args meth c cc cls nL ini sc base wA ad D cs) (hq : decode cc pc = .ok (.imul, 1)) (hP : va_P D vwCl (wld ad cs σ) H) (hS : va_S (fun q => base ≤ q) s.heap H locs) (hl : lvR ad ls nL L) (kk : KK p l e R s m args below meth c cells slots Q nL base ad D cs σ σ1 F) (h : bin (fun x y => x * y) pc L st σ = some (F, σ1)) : W p l e R s m args below meth c H locs cells slots Q (F0 m pc ls (st.map (cv ad))) := by
  obtain ⟨x, y, r, rfl, rfl, rfl⟩ := bin_inv h
  exact lv_imul hF.1 hF.2.1 hq (kk.same rfl rfl hP hS hl)
theorem so_iand (hF : FE p s m args meth c cc cls nL ini sc base wA ad D cs) (hq : decode cc pc = .ok (.iand, 1)) (hP : va_P D vwCl (wld ad cs σ) H) (hS : va_S (fun q => base ≤ q) s.heap H locs) (hl : lvR ad ls nL L) (kk : KK p l e R s m args below meth c cells slots Q nL base ad D cs σ σ1 F) (h : bin (fun x y => x &&& y) pc L st σ = some (F, σ1)) : W p l e R s m args below meth c H locs cells slots Q (F0 m pc ls (st.map (cv ad))) := by
  obtain ⟨x, y, r, rfl, rfl, rfl⟩ := bin_inv h
  exact lv_iand hF.1 hF.2.1 hq (kk.same rfl rfl hP hS hl)
theorem so_ior (hF : FE p s m args meth c cc cls nL ini sc base wA ad D cs) (hq : decode cc pc = .ok (.ior, 1)) (hP : va_P D vwCl (wld ad cs σ) H) (hS : va_S (fun q => base ≤ q) s.heap H locs) (hl : lvR ad ls nL L) (kk : KK p l e R s m args below meth c cells slots Q nL base ad D cs σ σ1 F) (h : bin (fun x y => x ||| y) pc L st σ = some (F, σ1)) : W p l e R s m args below meth c H locs cells slots Q (F0 m pc ls (st.map (cv ad))) := by
  obtain ⟨x, y, r, rfl, rfl, rfl⟩ := bin_inv h
  exact lv_ior hF.1 hF.2.1 hq (kk.same rfl rfl hP hS hl)
theorem so_ixor (hF : FE p s m args meth c cc cls nL ini sc base wA ad D cs) (hq : decode cc pc = .ok (.ixor, 1)) (hP : va_P D vwCl (wld ad cs σ) H) (hS : va_S (fun q => base ≤ q) s.heap H locs) (hl : lvR ad ls nL L) (kk : KK p l e R s m args below meth c cells slots Q nL base ad D cs σ σ1 F) (h : bin (fun x y => x ^^^ y) pc L st σ = some (F, σ1)) : W p l e R s m args below meth c H locs cells slots Q (F0 m pc ls (st.map (cv ad))) := by
  obtain ⟨x, y, r, rfl, rfl, rfl⟩ := bin_inv h
  exact lv_ixor hF.1 hF.2.1 hq (kk.same rfl rfl hP hS hl)
theorem so_ishl (hF : FE p s m args meth c cc cls nL ini sc base wA ad D cs) (hq : decode cc pc = .ok (.ishl, 1)) (hP : va_P D vwCl (wld ad cs σ) H) (hS : va_S (fun q => base ≤ q) s.heap H locs) (hl : lvR ad ls nL L) (kk : KK p l e R s m args below meth c cells slots Q nL base ad D cs σ σ1 F) (h : bin (fun x y => x <<< (y &&& 31)) pc L st σ = some (F, σ1)) : W p l e R s m args below meth c H locs cells slots Q (F0 m pc ls (st.map (cv ad))) := by
  obtain ⟨x, y, r, rfl, rfl, rfl⟩ := bin_inv h
  exact lv_ishl hF.1 hF.2.1 hq (kk.same rfl rfl hP hS hl)
theorem so_ishr (hF : FE p s m args meth c cc cls nL ini sc base wA ad D cs) (hq : decode cc pc = .ok (.ishr, 1)) (hP : va_P D vwCl (wld ad cs σ) H) (hS : va_S (fun q => base ≤ q) s.heap H locs) (hl : lvR ad ls nL L) (kk : KK p l e R s m args below meth c cells slots Q nL base ad D cs σ σ1 F) (h : bin (fun x y => x >>> (y &&& 31)) pc L st σ = some (F, σ1)) : W p l e R s m args below meth c H locs cells slots Q (F0 m pc ls (st.map (cv ad))) := by
  obtain ⟨x, y, r, rfl, rfl, rfl⟩ := bin_inv h
  exact lv_ishr hF.1 hF.2.1 hq (kk.same rfl rfl hP hS hl)
theorem so_iushr (hF : FE p s m args meth c cc cls nL ini sc base wA ad D cs) (hq : decode cc pc = .ok (.iushr, 1)) (hP : va_P D vwCl (wld ad cs σ) H) (hS : va_S (fun q => base ≤ q) s.heap H locs) (hl : lvR ad ls nL L) (kk : KK p l e R s m args below meth c cells slots Q nL base ad D cs σ σ1 F) (h : bin (fun x y => (x.toUInt32 >>> (y.toUInt32 &&& Int32.toUInt32 31)).toInt32) pc L st σ = some (F, σ1)) : W p l e R s m args below meth c H locs cells slots Q (F0 m pc ls (st.map (cv ad))) := by
  obtain ⟨x, y, r, rfl, rfl, rfl⟩ := bin_inv h
  exact lv_iushr hF.1 hF.2.1 hq rfl (kk.same rfl rfl hP hS hl)
theorem so_idiv (hF : FE p s m args meth c cc cls nL ini sc base wA ad D cs) (hq : decode cc pc = .ok (.idiv, 1)) (hP : va_P D vwCl (wld ad cs σ) H) (hS : va_S (fun q => base ≤ q) s.heap H locs) (hl : lvR ad ls nL L) (kk : KK p l e R s m args below meth c cells slots Q nL base ad D cs σ σ1 F) (h : (match st with | .int y :: .int x :: r => if y = 0 then none else some ((pc + 1, L, .int (x / y) :: r), σ) | _ => none) = some (F, σ1)) : W p l e R s m args below meth c H locs cells slots Q (F0 m pc ls (st.map (cv ad))) := by
  split at h
  · rename_i y x r
    by_cases hy : y = 0
    · rw [if_pos hy] at h
      cases h
    · rw [if_neg hy] at h
      cases h
      exact lv_idiv hF.1 hF.2.1 hq hy (kk.same rfl rfl hP hS hl)
  · cases h
theorem so_irem (hF : FE p s m args meth c cc cls nL ini sc base wA ad D cs) (hq : decode cc pc = .ok (.irem, 1)) (hP : va_P D vwCl (wld ad cs σ) H) (hS : va_S (fun q => base ≤ q) s.heap H locs) (hl : lvR ad ls nL L) (kk : KK p l e R s m args below meth c cells slots Q nL base ad D cs σ σ1 F) (h : (match st with | .int y :: .int x :: r => if y = 0 then none else some ((pc + 1, L, .int (x - x / y * y) :: r), σ) | _ => none) = some (F, σ1)) : W p l e R s m args below meth c H locs cells slots Q (F0 m pc ls (st.map (cv ad))) := by
  split at h
  · rename_i y x r
    by_cases hy : y = 0
    · rw [if_pos hy] at h
      cases h
    · rw [if_neg hy] at h
      cases h
      exact lv_irem hF.1 hF.2.1 hq hy (kk.same rfl rfl hP hS hl)
  · cases h
theorem so_ineg (hF : FE p s m args meth c cc cls nL ini sc base wA ad D cs) (hq : decode cc pc = .ok (.ineg, 1)) (hP : va_P D vwCl (wld ad cs σ) H) (hS : va_S (fun q => base ≤ q) s.heap H locs) (hl : lvR ad ls nL L) (kk : KK p l e R s m args below meth c cells slots Q nL base ad D cs σ σ1 F) (h : una (fun x => -x) pc L st σ = some (F, σ1)) : W p l e R s m args below meth c H locs cells slots Q (F0 m pc ls (st.map (cv ad))) := by
  obtain ⟨x, r, rfl, rfl, rfl⟩ := una_inv h
  exact lv_ineg hF.1 hF.2.1 hq (kk.same rfl rfl hP hS hl)
theorem so_i2b (hF : FE p s m args meth c cc cls nL ini sc base wA ad D cs) (hq : decode cc pc = .ok (.i2b, 1)) (hP : va_P D vwCl (wld ad cs σ) H) (hS : va_S (fun q => base ≤ q) s.heap H locs) (hl : lvR ad ls nL L) (kk : KK p l e R s m args below meth c cells slots Q nL base ad D cs σ σ1 F) (h : una (fun x => x.toInt8.toInt32) pc L st σ = some (F, σ1)) : W p l e R s m args below meth c H locs cells slots Q (F0 m pc ls (st.map (cv ad))) := by
  obtain ⟨x, r, rfl, rfl, rfl⟩ := una_inv h
  exact lv_i2b hF.1 hF.2.1 hq rfl (kk.same rfl rfl hP hS hl)
theorem so_i2s (hF : FE p s m args meth c cc cls nL ini sc base wA ad D cs) (hq : decode cc pc = .ok (.i2s, 1)) (hP : va_P D vwCl (wld ad cs σ) H) (hS : va_S (fun q => base ≤ q) s.heap H locs) (hl : lvR ad ls nL L) (kk : KK p l e R s m args below meth c cells slots Q nL base ad D cs σ σ1 F) (h : una (fun x => x.toInt16.toInt32) pc L st σ = some (F, σ1)) : W p l e R s m args below meth c H locs cells slots Q (F0 m pc ls (st.map (cv ad))) := by
  obtain ⟨x, r, rfl, rfl, rfl⟩ := una_inv h
  exact lv_i2s hF.1 hF.2.1 hq rfl (kk.same rfl rfl hP hS hl)
theorem so_i2l (hF : FE p s m args meth c cc cls nL ini sc base wA ad D cs) (hq : decode cc pc = .ok (.i2l, 1)) (hP : va_P D vwCl (wld ad cs σ) H) (hS : va_S (fun q => base ≤ q) s.heap H locs) (hl : lvR ad ls nL L) (kk : KK p l e R s m args below meth c cells slots Q nL base ad D cs σ σ1 F) (h : (match st with | .int x :: r => some ((pc + 1, L, .long x.toInt64 :: r), σ) | _ => none) = some (F, σ1)) : W p l e R s m args below meth c H locs cells slots Q (F0 m pc ls (st.map (cv ad))) := by
  split at h
  · cases h
    exact lv_i2l hF.1 hF.2.1 hq rfl (kk.same rfl rfl hP hS hl)
  · cases h
theorem so_ladd (hF : FE p s m args meth c cc cls nL ini sc base wA ad D cs) (hq : decode cc pc = .ok (.ladd, 1)) (hP : va_P D vwCl (wld ad cs σ) H) (hS : va_S (fun q => base ≤ q) s.heap H locs) (hl : lvR ad ls nL L) (kk : KK p l e R s m args below meth c cells slots Q nL base ad D cs σ σ1 F) (h : (match st with | .long y :: .long x :: r => some ((pc + 1, L, .long (x + y) :: r), σ) | _ => none) = some (F, σ1)) : W p l e R s m args below meth c H locs cells slots Q (F0 m pc ls (st.map (cv ad))) := by
  split at h
  · cases h
    exact lv_ladd hF.1 hF.2.1 hq (kk.same rfl rfl hP hS hl)
  · cases h
theorem so_lcmp (hF : FE p s m args meth c cc cls nL ini sc base wA ad D cs) (hq : decode cc pc = .ok (.lcmp, 1)) (hP : va_P D vwCl (wld ad cs σ) H) (hS : va_S (fun q => base ≤ q) s.heap H locs) (hl : lvR ad ls nL L) (kk : KK p l e R s m args below meth c cells slots Q nL base ad D cs σ σ1 F) (h : (match st with | .long y :: .long x :: r => some ((pc + 1, L, .int (lg_cmp x y) :: r), σ) | _ => none) = some (F, σ1)) : W p l e R s m args below meth c H locs cells slots Q (F0 m pc ls (st.map (cv ad))) := by
  split at h
  · cases h
    exact W.lcmp hF.1 hF.2.1 hq (kk.same rfl rfl hP hS hl)
  · cases h
theorem so_iconst {n : Int} (hF : FE p s m args meth c cc cls nL ini sc base wA ad D cs) (hq : decode cc pc = .ok (.iconst n, 1)) (hP : va_P D vwCl (wld ad cs σ) H) (hS : va_S (fun q => base ≤ q) s.heap H locs) (hl : lvR ad ls nL L) (kk : KK p l e R s m args below meth c cells slots Q nL base ad D cs σ σ1 F) (hv : Int32.ofInt n = i32 n) (h : some ((pc + 1, L, .int (i32 n) :: st), σ) = some (F, σ1)) : W p l e R s m args below meth c H locs cells slots Q (F0 m pc ls (st.map (cv ad))) := by
  cases h
  exact lv_iconst hF.1 hF.2.1 hq hv (kk.same rfl rfl hP hS hl)
theorem so_bipush {n : Int} (hF : FE p s m args meth c cc cls nL ini sc base wA ad D cs) (hq : decode cc pc = .ok (.bipush n, 2)) (hP : va_P D vwCl (wld ad cs σ) H) (hS : va_S (fun q => base ≤ q) s.heap H locs) (hl : lvR ad ls nL L) (kk : KK p l e R s m args below meth c cells slots Q nL base ad D cs σ σ1 F) (hv : (Int8.ofInt n).toInt32 = i32 n) (h : some ((pc + 2, L, .int (i32 n) :: st), σ) = some (F, σ1)) : W p l e R s m args below meth c H locs cells slots Q (F0 m pc ls (st.map (cv ad))) := by
  cases h
  exact lv_bipush hF.1 hF.2.1 hq hv (kk.same rfl rfl hP hS hl)
theorem so_sipush {n : Int} (hF : FE p s m args meth c cc cls nL ini sc base wA ad D cs) (hq : decode cc pc = .ok (.sipush n, 3)) (hP : va_P D vwCl (wld ad cs σ) H) (hS : va_S (fun q => base ≤ q) s.heap H locs) (hl : lvR ad ls nL L) (kk : KK p l e R s m args below meth c cells slots Q nL base ad D cs σ σ1 F) (hv : (Int16.ofInt n).toInt32 = i32 n) (h : some ((pc + 3, L, .int (i32 n) :: st), σ) = some (F, σ1)) : W p l e R s m args below meth c H locs cells slots Q (F0 m pc ls (st.map (cv ad))) := by
  cases h
  exact lv_sipush hF.1 hF.2.1 hq hv (kk.same rfl rfl hP hS hl)
theorem so_lconst {n : Fin 2} (hF : FE p s m args meth c cc cls nL ini sc base wA ad D cs) (hq : decode cc pc = .ok (.lconst n, 1)) (hP : va_P D vwCl (wld ad cs σ) H) (hS : va_S (fun q => base ≤ q) s.heap H locs) (hl : lvR ad ls nL L) (kk : KK p l e R s m args below meth c cells slots Q nL base ad D cs σ σ1 F) (h : some ((pc + 1, L, .long (Int64.ofNat n) :: st), σ) = some (F, σ1)) : W p l e R s m args below meth c H locs cells slots Q (F0 m pc ls (st.map (cv ad))) := by
  cases h
  exact lv_lconst hF.1 hF.2.1 hq rfl (kk.same rfl rfl hP hS hl)
theorem so_ldc {k : Nat} (hF : FE p s m args meth c cc cls nL ini sc base wA ad D cs) (hq : decode cc pc = .ok (.ldc k, 2)) (hP : va_P D vwCl (wld ad cs σ) H) (hS : va_S (fun q => base ≤ q) s.heap H locs) (hl : lvR ad ls nL L) (kk : KK p l e R s m args below meth c cells slots Q nL base ad D cs σ σ1 F) (h : (match asc (cstT cls) k with | some v => some ((pc + 2, L, .int v :: st), σ) | none => none) = some (F, σ1)) : W p l e R s m args below meth c H locs cells slots Q (F0 m pc ls (st.map (cv ad))) := by
  split at h
  · rename_i v e
    cases h
    exact lv_ldc hF.1 hF.2.1 hF.2.2.2.1 (hF.2.2.2.2.1 _ (csT _ _ (asc_mem e)) goodC3) hq (kk.same rfl rfl hP hS hl)
  · cases h
theorem so_ldc_w {k : Nat} (hF : FE p s m args meth c cc cls nL ini sc base wA ad D cs) (hq : decode cc pc = .ok (.ldc_w k, 3)) (hP : va_P D vwCl (wld ad cs σ) H) (hS : va_S (fun q => base ≤ q) s.heap H locs) (hl : lvR ad ls nL L) (kk : KK p l e R s m args below meth c cells slots Q nL base ad D cs σ σ1 F) (h : (match asc (cstT cls) k with | some v => some ((pc + 3, L, .int v :: st), σ) | none => none) = some (F, σ1)) : W p l e R s m args below meth c H locs cells slots Q (F0 m pc ls (st.map (cv ad))) := by
  split at h
  · rename_i v e
    cases h
    exact lv_ldcw hF.1 hF.2.1 hF.2.2.2.1 (hF.2.2.2.2.1 _ (csT _ _ (asc_mem e)) goodC3) hq (kk.same rfl rfl hP hS hl)
  · cases h
theorem so_ldc2_w {k : Nat} (hF : FE p s m args meth c cc cls nL ini sc base wA ad D cs) (hq : decode cc pc = .ok (.ldc2_w k, 3)) (hP : va_P D vwCl (wld ad cs σ) H) (hS : va_S (fun q => base ≤ q) s.heap H locs) (hl : lvR ad ls nL L) (kk : KK p l e R s m args below meth c cells slots Q nL base ad D cs σ σ1 F) (h : (match asc (cslT cls) k with | some v => some ((pc + 3, L, .long v :: st), σ) | none => none) = some (F, σ1)) : W p l e R s m args below meth c H locs cells slots Q (F0 m pc ls (st.map (cv ad))) := by
  split at h
  · rename_i v e
    cases h
    exact lv_ldc2 hF.1 hF.2.1 hF.2.2.2.1 (hF.2.2.2.2.1 _ (cslT_in _ _ (asc_mem e)) goodC6) hq (kk.same rfl rfl hP hS hl)
  · cases h
theorem so_iinc {k : Nat} {n : Int} (hF : FE p s m args meth c cc cls nL ini sc base wA ad D cs) (hq : decode cc pc = .ok (.iinc k n, 3)) (hP : va_P D vwCl (wld ad cs σ) H) (hS : va_S (fun q => base ≤ q) s.heap H locs) (hl : lvR ad ls nL L) (kk : KK p l e R s m args below meth c cells slots Q nL base ad D cs σ σ1 F) (hv : Int32.ofInt n = i32 n) (h : (match nth L k with | .int x => bif okS L k then some ((pc + 3, stL L k (.int (x + i32 n)), st), σ) else none | _ => none) = some (F, σ1)) : W p l e R s m args below meth c H locs cells slots Q (F0 m pc ls (st.map (cv ad))) := by
  split at h
  · rename_i x e
    obtain ⟨hok, h⟩ := bif_inv h
    cases h
    obtain ⟨hL, lv, hlv, hm⟩ := hl
    obtain ⟨j, hj⟩ := List.getElem?_of_mem (hm k (nthUU e (by intro q; cases q)))
    rw [e] at hj
    exact lv_iinc hF.1 hF.2.1 hq hlv hj (by rw [hv]) (by rw [← hL]; exact okS_lt hok) rfl (fun ls' hl' => kk.same rfl rfl hP hS (lvR_st (v := .int (x + i32 n)) hL hm hok hl'))
  · cases h
theorem lg_cat {v : Value} (h : isLg v = false) : (cv ad v).category = 1 := by
  rw [cat_lg, h]
  rfl
theorem so_dup (hF : FE p s m args meth c cc cls nL ini sc base wA ad D cs) (hq : decode cc pc = .ok (.dup, 1)) (hP : va_P D vwCl (wld ad cs σ) H) (hS : va_S (fun q => base ≤ q) s.heap H locs) (hl : lvR ad ls nL L) (kk : KK p l e R s m args below meth c cells slots Q nL base ad D cs σ σ1 F) (h : (match st with | v :: r => bif isLg v then none else some ((pc + 1, L, v :: v :: r), σ) | _ => none) = some (F, σ1)) : W p l e R s m args below meth c H locs cells slots Q (F0 m pc ls (st.map (cv ad))) := by
  split at h
  · rename_i v r
    cases hv : isLg v with
    | true =>
      rw [hv] at h
      cases h
    | false =>
      rw [hv] at h
      cases h
      exact lv_dup hF.1 hF.2.1 hq (lg_cat hv) (kk.same rfl rfl hP hS hl)
  · cases h
theorem so_dup2 (hF : FE p s m args meth c cc cls nL ini sc base wA ad D cs) (hq : decode cc pc = .ok (.dup2, 1)) (hP : va_P D vwCl (wld ad cs σ) H) (hS : va_S (fun q => base ≤ q) s.heap H locs) (hl : lvR ad ls nL L) (kk : KK p l e R s m args below meth c cells slots Q nL base ad D cs σ σ1 F) (h : (match st with | v :: w :: r => bif isLg v || isLg w then none else some ((pc + 1, L, v :: w :: v :: w :: r), σ) | _ => none) = some (F, σ1)) : W p l e R s m args below meth c H locs cells slots Q (F0 m pc ls (st.map (cv ad))) := by
  split at h
  · rename_i v w r
    cases hv : isLg v with
    | true =>
      rw [hv] at h
      cases h
    | false =>
      cases hw : isLg w with
      | true =>
        rw [hv, hw] at h
        cases h
      | false =>
        rw [hv, hw] at h
        cases h
        exact lv_dup2_11 hF.1 hF.2.1 hq (lg_cat hv) (lg_cat hw) (kk.same rfl rfl hP hS hl)
  · cases h
theorem so_goto {off : Int} (hF : FE p s m args meth c cc cls nL ini sc base wA ad D cs) (hq : decode cc pc = .ok (.goto off, 3)) (hP : va_P D vwCl (wld ad cs σ) H) (hS : va_S (fun q => base ≤ q) s.heap H locs) (hl : lvR ad ls nL L) (kk : KK p l e R s m args below meth c cells slots Q nL base ad D cs σ σ1 F) (h : jm pc off L st σ = some (F, σ1)) : W p l e R s m args below meth c H locs cells slots Q (F0 m pc ls (st.map (cv ad))) := by
  obtain ⟨t, ht, rfl, rfl⟩ := jm_inv h
  exact lv_goto hF.1 hF.2.1 hq ht (kk.same rfl rfl hP hS hl)
theorem so_if_eq {x : Int32} {r : List Value} {off : Int} (hF : FE p s m args meth c cc cls nL ini sc base wA ad D cs) (hq : decode cc pc = .ok (.ifCond .eq off, 3)) (hP : va_P D vwCl (wld ad cs σ) H) (hS : va_S (fun q => base ≤ q) s.heap H locs) (hl : lvR ad ls nL L) (kk : KK p l e R s m args below meth c cells slots Q nL base ad D cs σ σ1 F) (h : jc (x = 0) pc off L r σ = some (F, σ1)) : W p l e R s m args below meth c H locs cells slots Q (F0 m pc ls (.int x :: r.map (cv ad))) := by
  obtain ⟨t, ht, rfl, rfl⟩ := jc_inv h
  have K := kk.same rfl rfl hP hS hl
  exact lv_if_eq hF.1 hF.2.1 hq ht (fun hc => by first | (rw [if_pos hc] at K; exact K) | (rw [if_pos (fun q => hc q)] at K; exact K)) (fun hc => by first | (rw [if_neg hc] at K; exact K) | (rw [if_neg (fun q => q hc)] at K; exact K))
theorem so_icmp_eq {x y : Int32} {r : List Value} {off : Int} (hF : FE p s m args meth c cc cls nL ini sc base wA ad D cs) (hq : decode cc pc = .ok (.if_icmp .eq off, 3)) (hP : va_P D vwCl (wld ad cs σ) H) (hS : va_S (fun q => base ≤ q) s.heap H locs) (hl : lvR ad ls nL L) (kk : KK p l e R s m args below meth c cells slots Q nL base ad D cs σ σ1 F) (h : jc (x = y) pc off L r σ = some (F, σ1)) : W p l e R s m args below meth c H locs cells slots Q (F0 m pc ls (.int y :: .int x :: r.map (cv ad))) := by
  obtain ⟨t, ht, rfl, rfl⟩ := jc_inv h
  have K := kk.same rfl rfl hP hS hl
  exact lv_icmp_eq hF.1 hF.2.1 hq ht (fun hc => by first | (rw [if_pos hc] at K; exact K) | (rw [if_pos (fun q => hc q)] at K; exact K)) (fun hc => by first | (rw [if_neg hc] at K; exact K) | (rw [if_neg (fun q => q hc)] at K; exact K))
theorem so_if_ne {x : Int32} {r : List Value} {off : Int} (hF : FE p s m args meth c cc cls nL ini sc base wA ad D cs) (hq : decode cc pc = .ok (.ifCond .ne off, 3)) (hP : va_P D vwCl (wld ad cs σ) H) (hS : va_S (fun q => base ≤ q) s.heap H locs) (hl : lvR ad ls nL L) (kk : KK p l e R s m args below meth c cells slots Q nL base ad D cs σ σ1 F) (h : jc (¬ x = 0) pc off L r σ = some (F, σ1)) : W p l e R s m args below meth c H locs cells slots Q (F0 m pc ls (.int x :: r.map (cv ad))) := by
  obtain ⟨t, ht, rfl, rfl⟩ := jc_inv h
  have K := kk.same rfl rfl hP hS hl
  exact lv_if_ne hF.1 hF.2.1 hq ht (fun hc => by first | (rw [if_pos hc] at K; exact K) | (rw [if_pos (fun q => hc q)] at K; exact K)) (fun hc => by first | (rw [if_neg hc] at K; exact K) | (rw [if_neg (fun q => q hc)] at K; exact K))
theorem so_icmp_ne {x y : Int32} {r : List Value} {off : Int} (hF : FE p s m args meth c cc cls nL ini sc base wA ad D cs) (hq : decode cc pc = .ok (.if_icmp .ne off, 3)) (hP : va_P D vwCl (wld ad cs σ) H) (hS : va_S (fun q => base ≤ q) s.heap H locs) (hl : lvR ad ls nL L) (kk : KK p l e R s m args below meth c cells slots Q nL base ad D cs σ σ1 F) (h : jc (¬ x = y) pc off L r σ = some (F, σ1)) : W p l e R s m args below meth c H locs cells slots Q (F0 m pc ls (.int y :: .int x :: r.map (cv ad))) := by
  obtain ⟨t, ht, rfl, rfl⟩ := jc_inv h
  have K := kk.same rfl rfl hP hS hl
  exact lv_icmp_ne hF.1 hF.2.1 hq ht (fun hc => by first | (rw [if_pos hc] at K; exact K) | (rw [if_pos (fun q => hc q)] at K; exact K)) (fun hc => by first | (rw [if_neg hc] at K; exact K) | (rw [if_neg (fun q => q hc)] at K; exact K))
theorem so_if_lt {x : Int32} {r : List Value} {off : Int} (hF : FE p s m args meth c cc cls nL ini sc base wA ad D cs) (hq : decode cc pc = .ok (.ifCond .lt off, 3)) (hP : va_P D vwCl (wld ad cs σ) H) (hS : va_S (fun q => base ≤ q) s.heap H locs) (hl : lvR ad ls nL L) (kk : KK p l e R s m args below meth c cells slots Q nL base ad D cs σ σ1 F) (h : jc (x < 0) pc off L r σ = some (F, σ1)) : W p l e R s m args below meth c H locs cells slots Q (F0 m pc ls (.int x :: r.map (cv ad))) := by
  obtain ⟨t, ht, rfl, rfl⟩ := jc_inv h
  have K := kk.same rfl rfl hP hS hl
  exact lv_if_lt hF.1 hF.2.1 hq ht (fun hc => by first | (rw [if_pos hc] at K; exact K) | (rw [if_pos (fun q => hc q)] at K; exact K)) (fun hc => by first | (rw [if_neg hc] at K; exact K) | (rw [if_neg (fun q => q hc)] at K; exact K))
theorem so_icmp_lt {x y : Int32} {r : List Value} {off : Int} (hF : FE p s m args meth c cc cls nL ini sc base wA ad D cs) (hq : decode cc pc = .ok (.if_icmp .lt off, 3)) (hP : va_P D vwCl (wld ad cs σ) H) (hS : va_S (fun q => base ≤ q) s.heap H locs) (hl : lvR ad ls nL L) (kk : KK p l e R s m args below meth c cells slots Q nL base ad D cs σ σ1 F) (h : jc (x < y) pc off L r σ = some (F, σ1)) : W p l e R s m args below meth c H locs cells slots Q (F0 m pc ls (.int y :: .int x :: r.map (cv ad))) := by
  obtain ⟨t, ht, rfl, rfl⟩ := jc_inv h
  have K := kk.same rfl rfl hP hS hl
  exact lv_icmp_lt hF.1 hF.2.1 hq ht (fun hc => by first | (rw [if_pos hc] at K; exact K) | (rw [if_pos (fun q => hc q)] at K; exact K)) (fun hc => by first | (rw [if_neg hc] at K; exact K) | (rw [if_neg (fun q => q hc)] at K; exact K))
theorem so_if_ge {x : Int32} {r : List Value} {off : Int} (hF : FE p s m args meth c cc cls nL ini sc base wA ad D cs) (hq : decode cc pc = .ok (.ifCond .ge off, 3)) (hP : va_P D vwCl (wld ad cs σ) H) (hS : va_S (fun q => base ≤ q) s.heap H locs) (hl : lvR ad ls nL L) (kk : KK p l e R s m args below meth c cells slots Q nL base ad D cs σ σ1 F) (h : jc (0 ≤ x) pc off L r σ = some (F, σ1)) : W p l e R s m args below meth c H locs cells slots Q (F0 m pc ls (.int x :: r.map (cv ad))) := by
  obtain ⟨t, ht, rfl, rfl⟩ := jc_inv h
  have K := kk.same rfl rfl hP hS hl
  exact lv_if_ge hF.1 hF.2.1 hq ht (fun hc => by first | (rw [if_pos hc] at K; exact K) | (rw [if_pos (fun q => hc q)] at K; exact K)) (fun hc => by first | (rw [if_neg hc] at K; exact K) | (rw [if_neg (fun q => q hc)] at K; exact K))
theorem so_icmp_ge {x y : Int32} {r : List Value} {off : Int} (hF : FE p s m args meth c cc cls nL ini sc base wA ad D cs) (hq : decode cc pc = .ok (.if_icmp .ge off, 3)) (hP : va_P D vwCl (wld ad cs σ) H) (hS : va_S (fun q => base ≤ q) s.heap H locs) (hl : lvR ad ls nL L) (kk : KK p l e R s m args below meth c cells slots Q nL base ad D cs σ σ1 F) (h : jc (y ≤ x) pc off L r σ = some (F, σ1)) : W p l e R s m args below meth c H locs cells slots Q (F0 m pc ls (.int y :: .int x :: r.map (cv ad))) := by
  obtain ⟨t, ht, rfl, rfl⟩ := jc_inv h
  have K := kk.same rfl rfl hP hS hl
  exact lv_icmp_ge hF.1 hF.2.1 hq ht (fun hc => by first | (rw [if_pos hc] at K; exact K) | (rw [if_pos (fun q => hc q)] at K; exact K)) (fun hc => by first | (rw [if_neg hc] at K; exact K) | (rw [if_neg (fun q => q hc)] at K; exact K))
theorem so_if_gt {x : Int32} {r : List Value} {off : Int} (hF : FE p s m args meth c cc cls nL ini sc base wA ad D cs) (hq : decode cc pc = .ok (.ifCond .gt off, 3)) (hP : va_P D vwCl (wld ad cs σ) H) (hS : va_S (fun q => base ≤ q) s.heap H locs) (hl : lvR ad ls nL L) (kk : KK p l e R s m args below meth c cells slots Q nL base ad D cs σ σ1 F) (h : jc (0 < x) pc off L r σ = some (F, σ1)) : W p l e R s m args below meth c H locs cells slots Q (F0 m pc ls (.int x :: r.map (cv ad))) := by
  obtain ⟨t, ht, rfl, rfl⟩ := jc_inv h
  have K := kk.same rfl rfl hP hS hl
  exact lv_if_gt hF.1 hF.2.1 hq ht (fun hc => by first | (rw [if_pos hc] at K; exact K) | (rw [if_pos (fun q => hc q)] at K; exact K)) (fun hc => by first | (rw [if_neg hc] at K; exact K) | (rw [if_neg (fun q => q hc)] at K; exact K))
theorem so_icmp_gt {x y : Int32} {r : List Value} {off : Int} (hF : FE p s m args meth c cc cls nL ini sc base wA ad D cs) (hq : decode cc pc = .ok (.if_icmp .gt off, 3)) (hP : va_P D vwCl (wld ad cs σ) H) (hS : va_S (fun q => base ≤ q) s.heap H locs) (hl : lvR ad ls nL L) (kk : KK p l e R s m args below meth c cells slots Q nL base ad D cs σ σ1 F) (h : jc (y < x) pc off L r σ = some (F, σ1)) : W p l e R s m args below meth c H locs cells slots Q (F0 m pc ls (.int y :: .int x :: r.map (cv ad))) := by
  obtain ⟨t, ht, rfl, rfl⟩ := jc_inv h
  have K := kk.same rfl rfl hP hS hl
  exact lv_icmp_gt hF.1 hF.2.1 hq ht (fun hc => by first | (rw [if_pos hc] at K; exact K) | (rw [if_pos (fun q => hc q)] at K; exact K)) (fun hc => by first | (rw [if_neg hc] at K; exact K) | (rw [if_neg (fun q => q hc)] at K; exact K))
theorem so_if_le {x : Int32} {r : List Value} {off : Int} (hF : FE p s m args meth c cc cls nL ini sc base wA ad D cs) (hq : decode cc pc = .ok (.ifCond .le off, 3)) (hP : va_P D vwCl (wld ad cs σ) H) (hS : va_S (fun q => base ≤ q) s.heap H locs) (hl : lvR ad ls nL L) (kk : KK p l e R s m args below meth c cells slots Q nL base ad D cs σ σ1 F) (h : jc (x ≤ 0) pc off L r σ = some (F, σ1)) : W p l e R s m args below meth c H locs cells slots Q (F0 m pc ls (.int x :: r.map (cv ad))) := by
  obtain ⟨t, ht, rfl, rfl⟩ := jc_inv h
  have K := kk.same rfl rfl hP hS hl
  exact lv_if_le hF.1 hF.2.1 hq ht (fun hc => by first | (rw [if_pos hc] at K; exact K) | (rw [if_pos (fun q => hc q)] at K; exact K)) (fun hc => by first | (rw [if_neg hc] at K; exact K) | (rw [if_neg (fun q => q hc)] at K; exact K))
theorem so_icmp_le {x y : Int32} {r : List Value} {off : Int} (hF : FE p s m args meth c cc cls nL ini sc base wA ad D cs) (hq : decode cc pc = .ok (.if_icmp .le off, 3)) (hP : va_P D vwCl (wld ad cs σ) H) (hS : va_S (fun q => base ≤ q) s.heap H locs) (hl : lvR ad ls nL L) (kk : KK p l e R s m args below meth c cells slots Q nL base ad D cs σ σ1 F) (h : jc (x ≤ y) pc off L r σ = some (F, σ1)) : W p l e R s m args below meth c H locs cells slots Q (F0 m pc ls (.int y :: .int x :: r.map (cv ad))) := by
  obtain ⟨t, ht, rfl, rfl⟩ := jc_inv h
  have K := kk.same rfl rfl hP hS hl
  exact lv_icmp_le hF.1 hF.2.1 hq ht (fun hc => by first | (rw [if_pos hc] at K; exact K) | (rw [if_pos (fun q => hc q)] at K; exact K)) (fun hc => by first | (rw [if_neg hc] at K; exact K) | (rw [if_neg (fun q => q hc)] at K; exact K))
theorem so_tsw {dflt lo hi : Int} {offs : Array Int} (hF : FE p s m args meth c cc cls nL ini sc base wA ad D cs) (hq : decode cc pc = .ok (.tableswitch dflt lo hi offs, len)) (hP : va_P D vwCl (wld ad cs σ) H) (hS : va_S (fun q => base ≤ q) s.heap H locs) (hl : lvR ad ls nL L) (kk : KK p l e R s m args below meth c cells slots Q nL base ad D cs σ σ1 F) (h : (match st with
    | .int x :: r => if x.toInt < lo ∨ hi < x.toInt then jm pc dflt L r σ else (match offs[(x.toInt - lo).toNat]? with
      | some off => jm pc off L r σ
      | none => none)
    | _ => none) = some (F, σ1)) : W p l e R s m args below meth c H locs cells slots Q (F0 m pc ls (st.map (cv ad))) := by
  split at h
  · rename_i x r
    by_cases hx : x.toInt < lo ∨ hi < x.toInt
    · rw [if_pos hx] at h
      obtain ⟨t, ht, rfl, rfl⟩ := jm_inv h
      exact lv_tableOut hF.1 hF.2.1 hq hx ht (kk.same rfl rfl hP hS hl)
    · rw [if_neg hx] at h
      split at h
      · rename_i off e
        obtain ⟨t, ht, rfl, rfl⟩ := jm_inv h
        exact lv_tableIn hF.1 hF.2.1 hq (fun z => hx (Or.inl z)) (fun z => hx (Or.inr z)) e ht (kk.same rfl rfl hP hS hl)
      · cases h
  · cases h
theorem so_lsw {dflt : Int} {ps : Array (Int × Int)} (hF : FE p s m args meth c cc cls nL ini sc base wA ad D cs) (hq : decode cc pc = .ok (.lookupswitch dflt ps, len)) (hP : va_P D vwCl (wld ad cs σ) H) (hS : va_S (fun q => base ≤ q) s.heap H locs) (hl : lvR ad ls nL L) (kk : KK p l e R s m args below meth c cells slots Q nL base ad D cs σ σ1 F) (hok : (ps.toList.zip (ps.toList.drop 1)).all (fun (a, next) => a.1 < next.1) = true) (h : (match st with
    | .int x :: r => jm pc (Op.lookupswitch.offset ps.toList dflt x.toInt) L r σ
    | _ => none) = some (F, σ1)) : W p l e R s m args below meth c H locs cells slots Q (F0 m pc ls (st.map (cv ad))) := by
  split at h
  · obtain ⟨t, ht, rfl, rfl⟩ := jm_inv h
    exact lv_lookup hF.1 hF.2.1 hq hok rfl ht (kk.same rfl rfl hP hS hl)
  · cases h
end STEP
