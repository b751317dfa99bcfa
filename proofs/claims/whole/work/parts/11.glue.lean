/-! the law's start, out of a run of the pure machine from its pc 16 on -/
def LawRun (L : Nat) (xs : Nat → Int32) : Prop := ∃ d n σ', d ≤ 20 ∧ σ'.1 ≤ 4400 ∧ σ'.2.1 ≤ 100000 ∧ Go (Ev d) 209 10 false (some .boolean) (true, L, xs) n 16 [.ref 5001, .ref 0, .ref 271, UU] [] mem0 (some (.int 1)) σ'
theorem ev_mono : ∀ (d t : Nat) (as : List Value) (σ : Mem) (v : Option Value) (σ1 : Mem), Ev d t as σ v σ1 → Ev (d + 1) t as σ v σ1 := by
  intro d
  induction d with
  | zero =>
    intro t as σ v σ1 h
    exact h.elim
  | succ d ih =>
    intro t as σ v σ1 ⟨e, he, hl, n, hg⟩
    refine ⟨e, he, hl, n, ?_⟩
    have key : ∀ (n pc : Nat) (L st : List Value) (σ : Mem), Go (Ev d) t e.1 e.2.2.2.2.2.2.2 e.2.2.2.2.1 sc0 n pc L st σ v σ1 → Go (Ev (d + 1)) t e.1 e.2.2.2.2.2.2.2 e.2.2.2.2.1 sc0 n pc L st σ v σ1 := by
      intro n
      induction n with
      | zero =>
        intro pc L st σ h
        exact h.elim
      | succ n ih2 =>
        intro pc L st σ ⟨q, hq, h⟩
        refine ⟨q, hq, ?_⟩
        rcases h with ⟨F, σ2, h1, h2, h3⟩ | h | ⟨t2, as2, rest, v2, σ2, h1, h2, h3, h4⟩
        · exact Or.inl ⟨F, σ2, h1, h2, ih2 _ _ _ _ h3⟩
        · exact Or.inr (Or.inl h)
        · exact Or.inr (Or.inr ⟨t2, as2, rest, v2, σ2, h1, ih _ _ _ _ _ h2, h3, ih2 _ _ _ _ h4⟩)
    exact key n 0 _ [] σ hg
theorem ev_up {d d' t : Nat} {as : List Value} {σ : Mem} {v : Option Value} {σ1 : Mem} (h : Ev d t as σ v σ1) (hd : d ≤ d') : Ev d' t as σ v σ1 := by
  induction hd with
  | refl => exact h
  | step _ ih => exact ev_mono _ _ _ _ _ _ ih
theorem arr_of {s : State} {cA : ClassId} {k : Class} {comp : ClassId} {ty : FieldType} (h2 : s.vm.classes[cA]? = some k) (h3 : k.kind = .array comp ty) : ArrOfT s cA ty := fun n z => ⟨fun k9 h => (by cases h), k, h2, comp, h3⟩
theorem cdL_eq : cdT 209 = cdL := rfl
theorem dcL {pc : Nat} {q : Instr × Nat} (h : asc cdL pc = some q) : decode code pc = .ok q := ckL (pc, q) (asc_mem h)
set_option maxHeartbeats 4000000 in
theorem whole_of (hrun : ∀ (L : Nat) (xs : Nat → Int32), L ≤ 3072 → LawRun L xs) {p : Program} {e : Env} {s : State} {m : MethodId} {below : List Frame} {meth : Method} {c : Code} (l : Launch) {b L : Nat} {xs : Nat → Int32} (hL : L ≤ 3072) (C0 : lw_At p s m meth c b L xs) : W p l e room_1 s m #[Value.ref b] below meth c s.heap [] 0 0 (lw_Z below #[Value.ref b] s) (entryFrame m ([Value.ref b] : List Value).toArray 4) := by
  obtain ⟨hx, hb, hr, hml, hown, hts, hX, hbl, hlocks, hgv⟩ := id C0
  obtain ⟨c0, i0, k0⟩ := u_known (C := RX0) (T := TX0) (N := 3) (n := 3) hts lay0 (hts _ (insT 0 (by decide)).1)
  obtain ⟨c1, i1, k1⟩ := u_known (C := RX1) (T := TX1) (N := 2) (n := 2) hts lay1 (hts _ (insT 1 (by decide)).1)
  obtain ⟨c2, i2, k2⟩ := u_known (C := RX2) (T := TX2) (N := 9) (n := 9) hts lay2 (hts _ (insT 2 (by decide)).1)
  obtain ⟨c3, i3, k3⟩ := u_known (C := RX3) (T := TX3) (N := 6) (n := 6) hts lay3 (hts _ (insT 3 (by decide)).1)
  obtain ⟨c4, i4, k4⟩ := u_known (C := RX4) (T := TX4) (N := 3) (n := 3) hts lay4 (hts _ (insT 4 (by decide)).1)
  obtain ⟨c5, i5, k5⟩ := u_known (C := RX5) (T := TX5) (N := 16) (n := 16) hts lay5 (hts _ (insT 5 (by decide)).1)
  obtain ⟨c6, i6, k6⟩ := u_known (C := RX6) (T := TX6) (N := 10) (n := 10) hts lay6 (hts _ (insT 6 (by decide)).1)
  obtain ⟨c7, i7, k7⟩ := u_known (C := RX7) (T := TX7) (N := 20) (n := 20) hts lay7 (hts _ (insT 7 (by decide)).1)
  obtain ⟨D, hKc⟩ : ∃ D : va_G, ∀ (k : Nat) (q : vw_C), vwCl[k]? = some q → u_Kn s q.1 q.2.1 q.2.2 (D.1 k) (D.2 k) := by
    refine ⟨(fun k => match k with | 0 => c0 | 1 => c1 | 2 => c2 | 3 => c3 | 4 => c4 | 5 => c5 | 6 => c6 | _ => c7, fun k => match k with | 0 => i0 | 1 => i1 | 2 => i2 | 3 => i3 | 4 => i4 | 5 => i5 | 6 => i6 | _ => i7), ?_⟩
    intro k q hq
    match k, hq with
    | 0, hq => cases hq; exact k0
    | 1, hq => cases hq; exact k1
    | 2, hq => cases hq; exact k2
    | 3, hq => cases hq; exact k3
    | 4, hq => cases hq; exact k4
    | 5, hq => cases hq; exact k5
    | 6, hq => cases hq; exact k6
    | 7, hq => cases hq; exact k7
    | k + 8, hq => simp at hq
  obtain ⟨cI, kI, mI, aI1, aI2, aI3⟩ := Cond.arrayClass_spec (hts _ acI)
  obtain ⟨cB, kB, mB, aB1, aB2, aB3⟩ := Cond.arrayClass_spec (hts _ acB)
  obtain ⟨mT0, cT, kT, aT1, -, aT2, aT3, aT4⟩ := Cond.arrayOver_spec (hts _ aoT)
  obtain ⟨mJ, cJ, kJ, aJ1, aJ2, aJ3, aJ4⟩ := Cond.arrayOver_specA (hts _ aoI)
  have hK : va_K D vwCl (tysOf (cI, cB, cT, cJ)) s := by
    refine ⟨hKc, fun k q hq => ?_⟩
    match k, hq with
    | 0, hq => cases hq; exact ⟨arr_of aI2 aI3, aI1⟩
    | 1, hq => cases hq; exact ⟨arr_of aB2 aB3, aB1⟩
    | 2, hq => cases hq; exact ⟨arr_of aT2 aT3, kT, mT0, aT2, aT3, aT1, aT4⟩
    | 3, hq => cases hq; exact ⟨arr_of aJ2 aJ3, aJ4⟩
    | k + 4, hq => simp at hq
  have hg := flat_of_before _ hgv
  have hw := fun (w : Cond) (h : w ∈ flatC (Jvm.Cond.and given_1 narrow_1)) => hg w h
  obtain ⟨wA, hwv, hT⟩ := va_Tof (args := #[Value.ref b]) (s := s) (tm := .static "TowerBraid" "WIDER" "[I") (ty := .int) (N := 6) (f := fun j => .int (wid j)) (A := fun q => s.heap.size ≤ q) (by decide) (hw (.arrayOf (.static "TowerBraid" "WIDER" "[I") .int) (by decide +kernel)) (va_eqt (hw (.eq (.length (.static "TowerBraid" "WIDER" "[I")) (.int 6)) (by decide +kernel)))
    (fun j hj => by
      match j, hj with
      | 0, _ => exact va_eqt (hw (.eq (.elem (.static "TowerBraid" "WIDER" "[I") (.int 0)) (.int 0)) (by decide +kernel))
      | 1, _ => exact va_eqt (hw (.eq (.elem (.static "TowerBraid" "WIDER" "[I") (.int 1)) (.int 0)) (by decide +kernel))
      | 2, _ => exact va_eqt (hw (.eq (.elem (.static "TowerBraid" "WIDER" "[I") (.int 2)) (.int 1)) (by decide +kernel))
      | 3, _ => exact va_eqt (hw (.eq (.elem (.static "TowerBraid" "WIDER" "[I") (.int 3)) (.int 1)) (by decide +kernel))
      | 4, _ => exact va_eqt (hw (.eq (.elem (.static "TowerBraid" "WIDER" "[I") (.int 4)) (.int 0)) (by decide +kernel))
      | 5, _ => exact va_eqt (hw (.eq (.elem (.static "TowerBraid" "WIDER" "[I") (.int 5)) (.int 4)) (by decide +kernel)))
    (fun a ha h => Nat.not_le.mpr ha h)
  have hZ : va_Z RX6 "WIDER" "[I" (.ref wA) (fun q => s.heap.size ≤ q) s s.heap := va_Zref (hts _ lstW) (hts _ (insT 6 (by decide)).2) hwv (fun a ha h => Nat.not_le.mpr ha h)
  have hWX : WX s.heap.size wA D (cI, cB, cT, cJ) s := ⟨hK, hZ, hT, fun w hw2 => by
    obtain ⟨a, i, x, h, rfl⟩ := nestT_form w hw2
    exact va_Nw.of rfl (hts _ (nestT_in _ hw2)), hts _ aoT, hts _ aoI⟩
  obtain ⟨ad, had, hwA, hadb⟩ : ∃ ad : Nat → Nat, (∀ i, i < 4500 → ad i = s.heap.size + i) ∧ ad 5000 = wA ∧ ad 5001 = b := by
    refine ⟨fun i => if i = 5000 then wA else if i = 5001 then b else s.heap.size + i, fun i hi => ?_, rfl, rfl⟩
    dsimp only
    rw [if_neg (by omega), if_neg (by omega)]
  have hF : FE p s m #[Value.ref b] meth c code 10 4 false (true, L, xs) s.heap.size wA ad D (cI, cB, cT, cJ) := ⟨hx, hb, hml, hown, fun w hw _ => hts w hw, (fun h => by cases h), hWX, had, hwA, fun _ => ⟨by rw [hadb]; exact hX, by rw [hadb]; exact hbl⟩, Nat.le_refl _⟩
  obtain ⟨d, n, σ', hd, hσ', hsl', hrunL⟩ := hrun L xs hL
  obtain ⟨σA, hEA, hmA⟩ := chk_ok ctorX_ok
  obtain ⟨σM, hEM, hmM⟩ := chk_ok ctorM_ok
  have eA1 : σA.1 = 271 := by have := hmA; unfold meqB at this; exact beqT (andT (andT this).1).1
  have eA2 : σA.2.1 = 2360 := by have := hmA; unfold meqB at this; exact beqT (andT (andT this).1).2
  have eM1 : σM.1 = 283 := by have := hmM; unfold meqB at this; exact beqT (andT (andT this).1).1
  have eM2 : σM.2.1 = 4234 := by have := hmM; unfold meqB at this; exact beqT (andT (andT this).1).2
  have hR : 1 ≤ room_1.frames ∧ 64 ≤ room_1.locals := ⟨by decide, by decide⟩
  have hR2 : ∀ d, d ≤ 20 → d + 1 ≤ room_1.frames ∧ 64 * (d + 1) ≤ room_1.locals := fun d hd => ⟨Nat.le_trans (show d + 1 ≤ 21 by omega) (by decide), Nat.le_trans (show 64 * (d + 1) ≤ 1344 by omega) (by decide)⟩
  have hCc : room_1.cells = 600000 := rfl
  have hCs : room_1.slots = 7302249 := rfl
  have hP0 : va_P D vwCl (wld ad (cI, cB, cT, cJ) memO) s.heap := fun k q hq => by
    obtain ⟨hi, -⟩ := wld_inv hq
    exact absurd hi (Nat.not_lt_zero _)
  have hl := lv_entry ([Value.ref b]) (n := 4) (Nat.le_of_ble_eq_true rfl)
  rw [lg_entry_eq]
  generalize (lg_sl ([Value.ref b]) ++ List.replicate (4 - (lg_sl ([Value.ref b])).length) Slot.unset).toArray = ls at hl ⊢
  have hlv : lvR ad ls 4 [.ref 5001, UU, UU, UU] := by
    refine ⟨rfl, _, hl, fun i hi => ?_⟩
    match i, hi with
    | 0, _ =>
      show (0, Value.ref (ad 5001)) ∈ _
      rw [hadb]
      exact List.mem_cons_self
    | 1, h => exact absurd rfl h
    | 2, h => exact absurd rfl h
    | 3, h => exact absurd rfl h
    | i + 4, h => exact absurd rfl h
  refine stp_ok (st := []) (σ := memO) (σ1 := mem1) (F := (3, [.ref 5001, UU, UU, UU], [.ref 0])) hF (by decide) (dcL (q := (.new 7, 3)) rfl) rfl hP0 va_S.rf hlv hR rfl (by rw [hCc]; decide) (by rw [hCs]; decide) (fun H1 locs1 ls1 hP1 hS1 hl1 => ?_) rfl
  refine stp_ok (st := [.ref 0]) (σ := mem1) (σ1 := mem1) (F := (4, [.ref 5001, UU, UU, UU], [.ref 0, .ref 0])) hF (by decide) (dcL (q := (.dup, 1)) rfl) rfl hP1 hS1 hl1 hR rfl (by rw [hCc]; decide) (by rw [hCs]; decide) (fun H2 locs2 ls2 hP2 hS2 hl2 => ?_) rfl
  refine cal_ok (d := 5) (st := [.ref 0, .ref 0]) (σ := mem1) (σ1 := σA) (v := none) (rest := [.ref 0]) (as := [.ref 0]) (t := 79) hF (by decide) (dcL (q := (.invokespecial 9, 3)) rfl) rfl hP2 hS2 hl2 (hR2 5 (by decide)) rfl (by rw [hCc, eA1]; decide) (by rw [hCs, eA2]; decide) (fun H3 locs3 ls3 hP3 hS3 hl3 => ?_) rfl (ev_ok had hwA 5 79 _ _ _ _ (by rw [eA1]; decide) hEA)
  have hP3 := meq_P hmA hP3
  rw [eA1, eA2]
  refine stp_ok (st := [.ref 0]) (σ := memA) (σ1 := memA) (F := (8, [.ref 5001, .ref 0, UU, UU], [])) hF (by decide) (dcL (q := (.astore_n 1, 1)) rfl) rfl hP3 hS3 hl3 hR rfl (by rw [hCc]; decide) (by rw [hCs]; decide) (fun H4 locs4 ls4 hP4 hS4 hl4 => ?_) rfl
  refine stp_ok (st := []) (σ := memA) (σ1 := memB) (F := (11, [.ref 5001, .ref 0, UU, UU], [.ref 271])) hF (by decide) (dcL (q := (.new 10, 3)) rfl) rfl hP4 hS4 hl4 hR rfl (by rw [hCc]; decide) (by rw [hCs]; decide) (fun H5 locs5 ls5 hP5 hS5 hl5 => ?_) rfl
  refine stp_ok (st := [.ref 271]) (σ := memB) (σ1 := memB) (F := (12, [.ref 5001, .ref 0, UU, UU], [.ref 271, .ref 271])) hF (by decide) (dcL (q := (.dup, 1)) rfl) rfl hP5 hS5 hl5 hR rfl (by rw [hCc]; decide) (by rw [hCs]; decide) (fun H6 locs6 ls6 hP6 hS6 hl6 => ?_) rfl
  refine cal_ok (d := 5) (st := [.ref 271, .ref 271]) (σ := memB) (σ1 := σM) (v := none) (rest := [.ref 271]) (as := [.ref 271]) (t := 123) hF (by decide) (dcL (q := (.invokespecial 12, 3)) rfl) rfl hP6 hS6 hl6 (hR2 5 (by decide)) rfl (by rw [hCc, eM1]; decide) (by rw [hCs, eM2]; decide) (fun H7 locs7 ls7 hP7 hS7 hl7 => ?_) rfl (ev_ok had hwA 5 123 _ _ _ _ (by rw [eM1]; decide) hEM)
  have hP7 := meq_P hmM hP7
  rw [eM1, eM2]
  refine stp_ok (st := [.ref 271]) (σ := mem0) (σ1 := mem0) (F := (16, [.ref 5001, .ref 0, .ref 271, UU], [])) hF (by decide) (dcL (q := (.astore_n 2, 1)) rfl) rfl hP7 hS7 hl7 hR rfl (by rw [hCc]; decide) (by rw [hCs]; decide) (fun H8 locs8 ls8 hP8 hS8 hl8 => ?_) rfl
  refine go_ok hF (mi := 209) (by rw [cdL_eq]; exact ckL) (fun q hq => List.all_eq_true.mp insTL q (by rw [← cdL_eq]; exact hq)) (fun t as σ v σ1 hb2 hc2 => ev_ok had hwA d t as σ v σ1 hb2 hc2) (hR2 d hd) hσ' ?_ n 16 _ [] mem0 H8 locs8 ls8 _ _ hrunL hP8 hS8 hl8 rfl ?_ ?_
  · intro pc ins ln L2 st H locs ls cells slots hdec hin hr2 hP hS hl hsz hc hs
    refine va_forget (fun q hq => hS.2.2 q hq) ?_
    refine W.widen (k := 600000) (n := 7302249) hc hs ?_
    unfold rtn at hr2
    split at hr2
    · obtain rfl := beqT hin
      split at hr2
      · obtain ⟨h01, hr2⟩ := ite_inv hr2
        cases hr2
        exact lw_ret hx hb hr hlocks hdec
      · cases hr2
    · split at hr2
      · split at hr2
        · cases hr2
        · cases hr2
      · cases hr2
    · split at hr2
      · split at hr2
        · cases hr2
        · cases hr2
      · cases hr2
    · cases hr2
  · rw [hCc]
    show 0 + (1 - 0) + (1 - 1) + (271 - 1) + (271 - 271) + (272 - 271) + (272 - 272) + (283 - 272) + (283 - 283) + (σ'.1 - 283) ≤ 600000
    omega
  · rw [hCs]
    show 0 + (10 - 0) + (10 - 10) + (2360 - 10) + (2360 - 2360) + (2380 - 2360) + (2380 - 2380) + (4234 - 2380) + (4234 - 4234) + (σ'.2.1 - 4234) ≤ 7302249
    omega
