/-! both sides over one state: the tower and its acts, the images, the rows, the trace, the tape, the latest fault -/
abbrev St : Type := TwS × ImS × RS × List Nat × TpS × Int32
def RIC (I : Pl) (s : St) : Prop := TSC I s.1 ∧ CPlan I s.1.1 ∧ ImC I s.2.1 ∧ RowsC I s.2.2.1 ∧ TrC I s.2.2.2.1 ∧ TpC I s.2.2.2.2.1 ∧ Tw I 15 Z0 ∧ I 0 8 = s.2.2.2.2.2
def RIM (I : Pl) (s : St) : Prop := TSM I s.1 ∧ ImM I s.2.1 ∧ RowsM I s.2.2.1 ∧ TrM I s.2.2.2.1 ∧ TpM I s.2.2.2.2.1 ∧ I 271 10 = s.2.2.2.2.2
def RII (s : St) : Prop := TSI s.1 ∧ ImI s.2.1 ∧ TpI s.2.2.2.2.1
def clP (o _k : Nat) : Prop := o < 271
def moP (o _k : Nat) : Prop := 271 ≤ o
theorem PlF.cg {I J : Pl} (h : PlF I) (hJ : ∀ o k, 225 ≤ o → o ≤ 244 → J o k = I o k) : PlF J := ⟨by rw [hJ _ _ (by omega) (by omega)]; exact h.1, fun d hd => by rw [hJ _ _ (by omega) (by omega)]; exact h.2 d hd⟩
theorem CPlan.cg {I J : Pl} {N : Nat → Nat} (h : CPlan I N) (hJ : ∀ o k, 225 ≤ o → o ≤ 244 → J o k = I o k) : CPlan J N := by
  rcases h with h | ⟨⟨w0, w1, w2⟩, hk⟩
  · exact Or.inl (h.cg hJ)
  · refine Or.inr ⟨⟨?_, fun t ht => ⟨fun m hm => ?_, ?_⟩, fun k hk => ?_⟩, fun d e1 e2 => ?_⟩
    · rw [hJ _ _ (by omega) (by omega)]; exact w0
    · rw [hJ _ _ (by omega) (by omega)]; exact (w1 t ht).1 m hm
    · rw [hJ _ _ (by omega) (by omega)]; exact (w1 t ht).2
    · rw [hJ _ _ (by omega) (by omega)]; exact w2 k hk
    · rw [hJ _ _ (by omega) (by omega)]
      rcases hk d e1 e2 with z | ⟨z, l1, l2⟩
      · exact Or.inl z
      · exact Or.inr ⟨z, by rw [hJ _ _ (by omega) (by omega)]; exact l1, fun q k hk => by rw [hJ _ _ (by omega) (by omega)]; exact l2 q k hk⟩
theorem ImC.cg {I J : Pl} {T : ImS} (h : ImC I T) (hJ : ∀ o k, 255 ≤ o → o ≤ 270 → J o k = I o k) : ImC J T := by
  intro k hk
  rcases h k hk with ⟨a, b⟩ | ⟨a, b, c⟩
  · exact Or.inl ⟨a, by rw [hJ _ _ (by omega) (by omega)]; exact b⟩
  · exact Or.inr ⟨a, b.cg (fun o k x y => hJ o k (by omega) (by omega)), c⟩
theorem TrC.cg {I J : Pl} {l : List Nat} (h : TrC I l) (hJ : ∀ o k, o = 245 ∨ o = 246 → J o k = I o k) : TrC J l := ⟨h.1, by rw [hJ _ _ (by omega)]; exact h.2.1, fun i hi => by rw [hJ _ _ (by omega)]; exact h.2.2 i hi⟩
theorem TpC.cg {I J : Pl} {P : TpS} (h : TpC I P) (hJ : ∀ o k, o = 13 ∨ o = 14 → J o k = I o k) : TpC J P := ⟨by rw [hJ _ _ (by omega)]; exact h.1, fun i hi => by rw [hJ _ _ (by omega)]; exact h.2 i hi⟩
theorem ImM.cg {I J : Pl} {T : ImS} (h : ImM I T) (hJ : ∀ o k, immP o k → J o k = I o k) : ImM J T := by
  intro k hk
  obtain ⟨a, b⟩ := h k hk
  refine ⟨by rw [hJ _ _ (Or.inl rfl)]; exact a, fun q j hj => ?_⟩
  rw [hJ _ _ (Or.inr ⟨rfl, by omega, by omega⟩)]
  exact b q j hj
theorem TrM.cg {I J : Pl} {l : List Nat} (h : TrM I l) (hJ : ∀ o k, tmP o k → J o k = I o k) : TrM J l := ⟨h.1, by rw [hJ _ _ (Or.inl ⟨rfl, rfl⟩)]; exact h.2.1, fun i hi => by rw [hJ _ _ (Or.inr rfl)]; exact h.2.2 i hi⟩
theorem TpM.cg {I J : Pl} {P : TpS} (h : TpM I P) (hJ : ∀ o k, fdmP o k → J o k = I o k) : TpM J P := ⟨by rw [hJ _ _ (Or.inl ⟨rfl, rfl⟩)]; exact h.1, fun i hi => by rw [hJ _ _ (Or.inr rfl)]; exact h.2 i hi⟩
theorem RIC.cg {I J : Pl} {s : St} (h : RIC I s) (hJ : ∀ o k, o < 271 → J o k = I o k) : RIC J s := by
  obtain ⟨h1, h2, h3, h4, h5, h6, h7, h8⟩ := h
  exact ⟨h1.cg (fun o k q => hJ o k (by omega)), h2.cg (fun o k x y => hJ o k (by omega)), h3.cg (fun o k x y => hJ o k (by omega)), h4.cg (fun o k q => hJ o k (by unfold rcP at q; omega)), h5.cg (fun o k q => hJ o k (by omega)), h6.cg (fun o k q => hJ o k (by omega)), h7.cg (fun o k x y => hJ o k (by omega)), by rw [hJ _ _ (by omega)]; exact h8⟩
theorem RIM.cg {I J : Pl} {s : St} (h : RIM I s) (hi : RII s) (hJ : ∀ o k, 271 ≤ o → J o k = I o k) : RIM J s := by
  obtain ⟨h1, h2, h3, h4, h5, h6⟩ := h
  exact ⟨h1.cg hi.1.2.1 (fun o k q => hJ o k (by unfold tsmP at q; omega)), h2.cg (fun o k q => hJ o k (by unfold immP at q; omega)), h3.cg (fun o k q => hJ o k (by unfold rmP at q; omega)), h4.cg (fun o k q => hJ o k (by unfold tmP at q; omega)), h5.cg (fun o k q => hJ o k (by unfold fdmP at q; omega)), by rw [hJ _ _ (by omega)]; exact h6⟩
/-- a call on both sides: the same answer, the same state behind it -/
def StepOK (I : Pl) (s : St) (t t' : Nat) (as : List Value) : Prop := ∃ a s', EvX 12 t (.ref 0 :: as) I (fun v K => v = some (.int a) ∧ RIC K s' ∧ Only I K clP) ∧ (∀ K, RIM K s → EvX 12 t' (.ref 271 :: as) K (fun v K' => v = some (.int a) ∧ RIM K' s' ∧ Only K K' moP)) ∧ RII s'
theorem stp_ro {I : Pl} {s : St} {t t' : Nat} {as : List Value} {A : Int32} (h : RIC I s) (hi : RII s) (h1 : Ev 12 t (.ref 0 :: as) (mem I) (some (.int A)) (mem I)) (h2 : ∀ K, RIM K s → Ev 12 t' (.ref 271 :: as) (mem K) (some (.int A)) (mem K)) : StepOK I s t t' as := ⟨A, s, ⟨_, _, h1, rfl, h, fun _ _ _ => rfl⟩, fun K hK => ⟨_, _, h2 K hK, rfl, hK, fun _ _ _ => rfl⟩, hi⟩
section STEPS
variable {I : Pl} {S S' : TwS} {T T' : ImS} {R R' : RS} {l l' : List Nat} {P P' : TpS} {f f' a : Int32} {t t' : Nat} {as : List Value}
theorem stp_rows (h : RIC I (S, T, R, l, P, f)) (hi : RII (S, T, R, l, P, f)) (h1 : EvX 12 t (.ref 0 :: as) I (fun v K => v = some (.int a) ∧ RowsC K R' ∧ Only I K rcP)) (h2 : ∀ K, RIM K (S, T, R, l, P, f) → EvX 12 t' (.ref 271 :: as) K (fun v K' => v = some (.int a) ∧ RowsM K' R' ∧ Only K K' rmP)) : StepOK I (S, T, R, l, P, f) t t' as := by
  refine ⟨a, (S, T, R', l, P, f), ?_, fun K hK => ?_, hi⟩
  · obtain ⟨v, K, e, rfl, hR, hO⟩ := h1
    obtain ⟨h1, h2, h3, h4, h5, h6, h7, h8⟩ := h
    exact ⟨_, K, e, rfl, ⟨h1.cg (fun o k q => hO o k (by unfold rcP; omega)), h2.cg (fun o k x y => hO o k (by unfold rcP; omega)), h3.cg (fun o k x y => hO o k (by unfold rcP; omega)), hR, h5.cg (fun o k q => hO o k (by unfold rcP; omega)), h6.cg (fun o k q => hO o k (by unfold rcP; omega)), h7.cg (fun o k x y => hO o k (by unfold rcP; omega)), by rw [hO _ _ (by unfold rcP; omega)]; exact h8⟩, hO.wk (fun o k q => by unfold rcP at q; unfold clP; omega)⟩
  · obtain ⟨v, K', e, rfl, hR, hO⟩ := h2 K hK
    obtain ⟨g1, g2, g3, g4, g5, g6⟩ := hK
    exact ⟨_, K', e, rfl, ⟨g1.cg hi.1.2.1 (fun o k q => hO o k (by unfold tsmP at q; unfold rmP; omega)), g2.cg (fun o k q => hO o k (by unfold immP at q; unfold rmP; omega)), hR, g4.cg (fun o k q => hO o k (by unfold tmP at q; unfold rmP; omega)), g5.cg (fun o k q => hO o k (by unfold fdmP at q; unfold rmP; omega)), by rw [hO _ _ (by unfold rmP; omega)]; exact g6⟩, hO.wk (fun o k q => by unfold rmP at q; unfold moP; omega)⟩
theorem stp_acts (h : RIC I (S, T, R, l, P, f)) (hi : RII (S, T, R, l, P, f)) (hi' : TSI S') (h1 : EvX 12 t (.ref 0 :: as) I (fun v K => v = some (.int a) ∧ TSC K S' ∧ Only I K tsP ∧ (PlF K ∨ (K = I ∧ S' = S)))) (h2 : ∀ K, RIM K (S, T, R, l, P, f) → EvX 12 t' (.ref 271 :: as) K (fun v K' => v = some (.int a) ∧ TSM K' S' ∧ Only K K' tsmP)) : StepOK I (S, T, R, l, P, f) t t' as := by
  refine ⟨a, (S', T, R, l, P, f), ?_, fun K hK => ?_, ⟨hi', hi.2.1, hi.2.2⟩⟩
  · obtain ⟨v, K, e, rfl, hS, hO, hP⟩ := h1
    obtain ⟨h1, h2, h3, h4, h5, h6, h7, h8⟩ := h
    have hp : CPlan K S'.1 := by
      rcases hP with hP | ⟨hP1, hP2⟩
      · exact Or.inl hP
      · rw [hP1, hP2]
        exact h2
    exact ⟨_, K, e, rfl, ⟨hS, hp, h3.cg (fun o k x y => hO o k (by unfold tsP; omega)), h4.cg (fun o k q => hO o k (by unfold rcP at q; unfold tsP; omega)), h5.cg (fun o k q => hO o k (by unfold tsP; omega)), h6.cg (fun o k q => hO o k (by unfold tsP; omega)), h7.cg (fun o k x y => hO o k (by unfold tsP; omega)), by rw [hO _ _ (by unfold tsP; omega)]; exact h8⟩, hO.wk (fun o k q => by unfold tsP at q; unfold clP; omega)⟩
  · obtain ⟨v, K', e, rfl, hS, hO⟩ := h2 K hK
    obtain ⟨g1, g2, g3, g4, g5, g6⟩ := hK
    exact ⟨_, K', e, rfl, ⟨hS, g2.cg (fun o k q => hO o k (by unfold immP at q; unfold tsmP; omega)), g3.cg (fun o k q => hO o k (by unfold rmP at q; unfold tsmP; omega)), g4.cg (fun o k q => hO o k (by unfold tmP at q; unfold tsmP; omega)), g5.cg (fun o k q => hO o k (by unfold fdmP at q; unfold tsmP; omega)), by rw [hO _ _ (by unfold tsmP; omega)]; exact g6⟩, hO.wk (fun o k q => by unfold tsmP at q; unfold moP; omega)⟩
theorem stp_image (h : RIC I (S, T, R, l, P, f)) (hi : RII (S, T, R, l, P, f)) (hi' : ImI T') (h1 : EvX 12 t (.ref 0 :: as) I (fun v K => v = some (.int a) ∧ ImC K T' ∧ Only I K imP)) (h2 : ∀ K, RIM K (S, T, R, l, P, f) → EvX 12 t' (.ref 271 :: as) K (fun v K' => v = some (.int a) ∧ ImM K' T' ∧ Only K K' immP)) : StepOK I (S, T, R, l, P, f) t t' as := by
  refine ⟨a, (S, T', R, l, P, f), ?_, fun K hK => ?_, ⟨hi.1, hi', hi.2.2⟩⟩
  · obtain ⟨v, K, e, rfl, hR, hO⟩ := h1
    obtain ⟨h1, h2, h3, h4, h5, h6, h7, h8⟩ := h
    exact ⟨_, K, e, rfl, ⟨h1.cg (fun o k q => hO o k (by unfold imP; omega)), h2.cg (fun o k x y => hO o k (by unfold imP; omega)), hR, h4.cg (fun o k q => hO o k (by unfold rcP at q; unfold imP; omega)), h5.cg (fun o k q => hO o k (by unfold imP; omega)), h6.cg (fun o k q => hO o k (by unfold imP; omega)), h7.cg (fun o k x y => hO o k (by unfold imP; omega)), by rw [hO _ _ (by unfold imP; omega)]; exact h8⟩, hO.wk (fun o k q => by unfold imP at q; unfold clP; omega)⟩
  · obtain ⟨v, K', e, rfl, hR, hO⟩ := h2 K hK
    obtain ⟨g1, g2, g3, g4, g5, g6⟩ := hK
    exact ⟨_, K', e, rfl, ⟨g1.cg hi.1.2.1 (fun o k q => hO o k (by unfold tsmP at q; unfold immP; omega)), hR, g3.cg (fun o k q => hO o k (by unfold rmP at q; unfold immP; omega)), g4.cg (fun o k q => hO o k (by unfold tmP at q; unfold immP; omega)), g5.cg (fun o k q => hO o k (by unfold fdmP at q; unfold immP; omega)), by rw [hO _ _ (by unfold immP; omega)]; exact g6⟩, hO.wk (fun o k q => by unfold immP at q; unfold moP; omega)⟩
theorem stp_trace (h : RIC I (S, T, R, l, P, f)) (hi : RII (S, T, R, l, P, f)) (h1 : EvX 12 t (.ref 0 :: as) I (fun v K => v = some (.int a) ∧ TrC K l' ∧ Only I K tcP)) (h2 : ∀ K, RIM K (S, T, R, l, P, f) → EvX 12 t' (.ref 271 :: as) K (fun v K' => v = some (.int a) ∧ TrM K' l' ∧ Only K K' tmP)) : StepOK I (S, T, R, l, P, f) t t' as := by
  refine ⟨a, (S, T, R, l', P, f), ?_, fun K hK => ?_, hi⟩
  · obtain ⟨v, K, e, rfl, hR, hO⟩ := h1
    obtain ⟨h1, h2, h3, h4, h5, h6, h7, h8⟩ := h
    exact ⟨_, K, e, rfl, ⟨h1.cg (fun o k q => hO o k (by unfold tcP; omega)), h2.cg (fun o k x y => hO o k (by unfold tcP; omega)), h3.cg (fun o k x y => hO o k (by unfold tcP; omega)), h4.cg (fun o k q => hO o k (by unfold rcP at q; unfold tcP; omega)), hR, h6.cg (fun o k q => hO o k (by unfold tcP; omega)), h7.cg (fun o k x y => hO o k (by unfold tcP; omega)), by rw [hO _ _ (by unfold tcP; omega)]; exact h8⟩, hO.wk (fun o k q => by unfold tcP at q; unfold clP; omega)⟩
  · obtain ⟨v, K', e, rfl, hR, hO⟩ := h2 K hK
    obtain ⟨g1, g2, g3, g4, g5, g6⟩ := hK
    exact ⟨_, K', e, rfl, ⟨g1.cg hi.1.2.1 (fun o k q => hO o k (by unfold tsmP at q; unfold tmP; omega)), g2.cg (fun o k q => hO o k (by unfold immP at q; unfold tmP; omega)), g3.cg (fun o k q => hO o k (by unfold rmP at q; unfold tmP; omega)), hR, g5.cg (fun o k q => hO o k (by unfold fdmP at q; unfold tmP; omega)), by rw [hO _ _ (by unfold tmP; omega)]; exact g6⟩, hO.wk (fun o k q => by unfold tmP at q; unfold moP; omega)⟩
theorem stp_feed (h : RIC I (S, T, R, l, P, f)) (hi : RII (S, T, R, l, P, f)) (hi' : TpI P') (h1 : EvX 12 t (.ref 0 :: as) I (fun v K => v = some (.int a) ∧ TpC K P' ∧ Only I K fdP)) (h2 : ∀ K, RIM K (S, T, R, l, P, f) → EvX 12 t' (.ref 271 :: as) K (fun v K' => v = some (.int a) ∧ TpM K' P' ∧ Only K K' fdmP)) : StepOK I (S, T, R, l, P, f) t t' as := by
  refine ⟨a, (S, T, R, l, P', f), ?_, fun K hK => ?_, ⟨hi.1, hi.2.1, hi'⟩⟩
  · obtain ⟨v, K, e, rfl, hR, hO⟩ := h1
    obtain ⟨h1, h2, h3, h4, h5, h6, h7, h8⟩ := h
    exact ⟨_, K, e, rfl, ⟨h1.cg (fun o k q => hO o k (by unfold fdP; omega)), h2.cg (fun o k x y => hO o k (by unfold fdP; omega)), h3.cg (fun o k x y => hO o k (by unfold fdP; omega)), h4.cg (fun o k q => hO o k (by unfold rcP at q; unfold fdP; omega)), h5.cg (fun o k q => hO o k (by unfold fdP; omega)), hR, h7.cg (fun o k x y => hO o k (by unfold fdP; omega)), by rw [hO _ _ (by unfold fdP; omega)]; exact h8⟩, hO.wk (fun o k q => by unfold fdP at q; unfold clP; omega)⟩
  · obtain ⟨v, K', e, rfl, hR, hO⟩ := h2 K hK
    obtain ⟨g1, g2, g3, g4, g5, g6⟩ := hK
    exact ⟨_, K', e, rfl, ⟨g1.cg hi.1.2.1 (fun o k q => hO o k (by unfold tsmP at q; unfold fdmP; omega)), g2.cg (fun o k q => hO o k (by unfold immP at q; unfold fdmP; omega)), g3.cg (fun o k q => hO o k (by unfold rmP at q; unfold fdmP; omega)), g4.cg (fun o k q => hO o k (by unfold tmP at q; unfold fdmP; omega)), hR, by rw [hO _ _ (by unfold fdmP; omega)]; exact g6⟩, hO.wk (fun o k q => by unfold fdmP at q; unfold moP; omega)⟩
theorem stp_plan (h : RIC I (S, T, R, l, P, f)) (hi : RII (S, T, R, l, P, f)) (h1 : EvX 12 t (.ref 0 :: as) I (fun v K => v = some (.int a) ∧ CPlan K S.1 ∧ Only I K pnP)) (h2 : ∀ K, RIM K (S, T, R, l, P, f) → EvX 12 t' (.ref 271 :: as) K (fun v K' => v = some (.int a) ∧ T0 K' S.1 ∧ Only K K' mpP)) : StepOK I (S, T, R, l, P, f) t t' as := by
  refine ⟨a, (S, T, R, l, P, f), ?_, fun K hK => ?_, hi⟩
  · obtain ⟨v, K, e, rfl, hR, hO⟩ := h1
    obtain ⟨h1, h2, h3, h4, h5, h6, h7, h8⟩ := h
    exact ⟨_, K, e, rfl, ⟨h1.cg (fun o k q => hO o k (by unfold pnP; omega)), hR, h3.cg (fun o k x y => hO o k (by unfold pnP; omega)), h4.cg (fun o k q => hO o k (by unfold rcP at q; unfold pnP; omega)), h5.cg (fun o k q => hO o k (by unfold pnP; omega)), h6.cg (fun o k q => hO o k (by unfold pnP; omega)), h7.cg (fun o k x y => hO o k (by unfold pnP; omega)), by rw [hO _ _ (by unfold pnP; omega)]; exact h8⟩, hO.wk (fun o k q => by unfold pnP at q; unfold clP; omega)⟩
  · obtain ⟨v, K', e, rfl, hM, hO⟩ := h2 K hK
    obtain ⟨g1, g2, g3, g4, g5, g6⟩ := hK
    refine ⟨_, K', e, rfl, ⟨g1.cg hi.1.2.1 (fun o k q => ?_), g2.cg (fun o k q => hO o k (by unfold immP at q; unfold mpP; omega)), g3.cg (fun o k q => hO o k (by unfold rmP at q; unfold mpP; omega)), g4.cg (fun o k q => hO o k (by unfold tmP at q; unfold mpP; omega)), g5.cg (fun o k q => hO o k (by unfold fdmP at q; unfold mpP; omega)), by rw [hO _ _ (by unfold mpP; omega)]; exact g6⟩, hO.wk (fun o k q => by unfold mpP at q; unfold moP; omega)⟩
    by_cases z : o = 272 ∧ k < 47
    · rw [z.1, hM k z.2]
      exact (g1.1 k z.2).symm
    · exact hO o k (by unfold tsmP at q; unfold mpP; omega)
theorem stp_tower (h : RIC I (S, T, R, l, P, f)) (hi : RII (S, T, R, l, P, f)) (hi' : TSI S') (h1 : EvX 12 t (.ref 0 :: as) I (fun v K => v = some (.int a) ∧ TSC K S' ∧ TpC K (0, P.2) ∧ K 0 8 = f' ∧ Only I K ttP ∧ (PlF K ∨ ((∀ o k, 225 ≤ o → o ≤ 244 → K o k = I o k) ∧ S' = S)))) (h2 : ∀ K, RIM K (S, T, R, l, P, f) → EvX 12 t' (.ref 271 :: as) K (fun v K' => v = some (.int a) ∧ TSM K' S' ∧ TpM K' (0, P.2) ∧ K' 271 10 = f' ∧ Only K K' mtP)) : StepOK I (S, T, R, l, P, f) t t' as := by
  refine ⟨a, (S', T, R, l, (0, P.2), f'), ?_, fun K hK => ?_, ⟨hi', hi.2.1, Nat.zero_le _, fun i hi => absurd hi (Nat.not_lt_zero _)⟩⟩
  · obtain ⟨v, K, e, rfl, hS, hT, hf, hO, hP⟩ := h1
    obtain ⟨h1, h2, h3, h4, h5, h6, h7, h8⟩ := h
    have hp : CPlan K S'.1 := by
      rcases hP with hP | ⟨hP1, hP2⟩
      · exact Or.inl hP
      · rw [hP2]
        exact CPlan.cg h2 hP1
    exact ⟨_, K, e, rfl, ⟨hS, hp, h3.cg (fun o k x y => hO o k (by unfold ttP tsP; omega)), h4.cg (fun o k q => hO o k (by unfold rcP at q; unfold ttP tsP; omega)), h5.cg (fun o k q => hO o k (by unfold ttP tsP; omega)), hT, h7.cg (fun o k x y => hO o k (by unfold ttP tsP; omega)), hf⟩, hO.wk (fun o k q => by unfold ttP tsP at q; unfold clP; omega)⟩
  · obtain ⟨v, K', e, rfl, hS, hT, hf, hO⟩ := h2 K hK
    obtain ⟨g1, g2, g3, g4, g5, g6⟩ := hK
    exact ⟨_, K', e, rfl, ⟨hS, g2.cg (fun o k q => hO o k (by unfold immP at q; unfold mtP mrP tsmP; omega)), g3.cg (fun o k q => hO o k (by unfold rmP at q; unfold mtP mrP tsmP; omega)), g4.cg (fun o k q => hO o k (by unfold tmP at q; unfold mtP mrP tsmP; omega)), hT, hf⟩, hO.wk (fun o k q => by unfold mtP mrP tsmP at q; unfold moP; omega)⟩
end STEPS
/-! how many rows there are, what the trace tells -/
def hmR (R : RS) : Nat → Nat
  | 0 => 0
  | k + 1 => if R.1 k = 3 then hmR R k + 0 else hmR R k + 1
theorem hmC_e {I : Pl} {R : RS} (h : RowsC I R) : ∀ k, k ≤ 8 → hmN I k = hmR R k := by
  intro k
  induction k with
  | zero => intro _; rfl
  | succ k ih =>
    intro hk
    obtain ⟨h1, h2, h3⟩ := h.2 k hk
    unfold hmN hmR
    rw [ih (by omega)]
    by_cases q : R.1 k = 3
    · rw [if_pos (h2 q), if_pos q]
    · obtain ⟨a, b, c, -⟩ := h3 (by omega)
      rw [if_neg q, if_neg]
      intro z
      have z2 := congrArg Int32.toInt z
      rw [b, nI_int (by omega)] at z2
      have e : (-1 : Int32).toInt = -1 := by decide
      omega
theorem hmM_e {I : Pl} {R : RS} (h : RowsM I R) : ∀ k, k ≤ 8 → hmM I k = hmR R k := by
  intro k
  induction k with
  | zero => intro _; rfl
  | succ k ih =>
    intro hk
    obtain ⟨h1, h2, h3⟩ := h.2 k hk
    unfold hmM hmR
    rw [ih (by omega)]
    by_cases q : R.1 k = 3
    · rw [if_pos q, if_neg]
      rw [h2 q]
      decide
    · obtain ⟨a, b, c, -⟩ := h3 (by omega)
      rw [if_neg q, if_pos]
      rw [a]
      exact iGeZ.mpr (by rw [nI_int (by omega)]; omega)
def aTr (l : List Nat) (x : Int32) : Int32 := if inA x l.length then nI (l.getD (nOf x) 0) else -1000000
theorem aTr_e {I : Pl} {b : Nat} {l : List Nat} {x : Int32} (h16 : l.length ≤ 16) (h : ∀ i, i < l.length → I b i = nI (l.getD i 0)) : aTrace I b l.length x = aTr l x := by
  unfold aTrace aTr
  by_cases q : inA x l.length
  · rw [if_pos q, if_pos q]
    obtain ⟨j, hj, rfl⟩ := inA_of q (by omega)
    rw [nOf_nI (by omega)]
    exact h j hj
  · rw [if_neg q, if_neg q]
/-! the 34 calls -/
section CALLS
variable {I : Pl} {s : St} {x y z u w : Int32}
theorem st_row (h : RIC I s) (hi : RII s) : StepOK I s 82 130 [.int x, .int y, .int z] := by
  obtain ⟨S, T, R, l, P, f⟩ := s
  exact stp_rows h hi (cs_row (d := 10) h.2.2.2.1) (fun K hK => ms_row (d := 9) hK.2.2.1)
theorem st_set (h : RIC I s) (hi : RII s) : StepOK I s 83 133 [.int x, .int y, .int z] := by
  obtain ⟨S, T, R, l, P, f⟩ := s
  exact stp_rows h hi (cs_set (d := 10) h.2.2.2.1) (fun K hK => ms_set (d := 9) hK.2.2.1)
theorem st_copy (h : RIC I s) (hi : RII s) : StepOK I s 84 134 [.int x, .int y, .int z, .int u, .int w] := by
  obtain ⟨S, T, R, l, P, f⟩ := s
  exact stp_rows h hi (cs_copy (d := 10) h.2.2.2.1) (fun K hK => ms_copy (d := 9) hK.2.2.1)
theorem st_drop (h : RIC I s) (hi : RII s) : StepOK I s 85 135 [.int x] := by
  obtain ⟨S, T, R, l, P, f⟩ := s
  exact stp_rows h hi (cs_drop (d := 10) h.2.2.2.1) (fun K hK => ms_drop (d := 9) hK.2.2.1)
theorem st_as (h : RIC I s) (hi : RII s) : StepOK I s 118 193 [.int x, .int y] := by
  obtain ⟨S, T, R, l, P, f⟩ := s
  exact stp_rows h hi (cs_as (d := 10) h.1.1 hi.1.1 h.2.2.2.1) (fun K hK => ms_as (d := 9) hK.1.1 hi.1.1 hK.2.2.1)
theorem st_climbers (h : RIC I s) (hi : RII s) : StepOK I s 110 186 [.int x, .int y, .int z] := by
  obtain ⟨S, T, R, l, P, f⟩ := s
  exact stp_rows h hi (cs_climbers (d := 7) h.1.1 hi.1.1 h.2.2.2.1) (fun K hK => ms_climbers (d := 8) hK.1.1 hi.1.1 hK.2.2.1)
theorem st_feed (h : RIC I s) (hi : RII s) : StepOK I s 86 136 [.int x] := by
  obtain ⟨S, T, R, l, ⟨n, B⟩, f⟩ := s
  exact stp_feed h hi (nFeed_I hi.2.2) (cs_feed (d := 10) h.2.2.2.2.2.1 hi.2.2) (fun K hK => ms_feed (d := 10) hK.2.2.2.2.1 hi.2.2)
theorem st_tower (h : RIC I s) (hi : RII s) : StepOK I s 88 147 [] := by
  obtain ⟨⟨N, m, F⟩, T, R, l, P, f⟩ := s
  have hq : PI P (pTow P) := PI_tow
  generalize hy : pTow P = y at hq
  exact stp_tower (S' := (nTower (N, m, F) y f).2.1) (f' := (nTower (N, m, F) y f).2.2) h hi (nTower_I hi.1 hq) (cs_tower (d := 7) (T := P) (y := y) (lf := f) h.1 hi.1 h.2.2.2.2.2.1 hi.2.2 h.2.2.2.2.2.2.1 h.2.2.2.2.2.2.2 hy hq) (fun K hK => ms_tower (d := 6) (T := P) (y := y) (lf := f) hK.1 hi.1 hK.2.2.2.2.1 hi.2.2 hK.2.2.2.2.2 hy hq)
theorem st_fault (h : RIC I s) (hi : RII s) : StepOK I s 89 148 [] := by
  refine stp_ro (A := s.2.2.2.2.2) h hi ?_ (fun K hK => ?_)
  · have e := cs_fault (d := 11) (I := I)
    rw [h.2.2.2.2.2.2.2] at e
    exact e
  · have e := ms_fault (d := 11) (I := K)
    rw [hK.2.2.2.2.2] at e
    exact e
theorem st_status (h : RIC I s) (hi : RII s) : StepOK I s 122 206 [] := by
  refine stp_ro (A := s.2.2.1.2.2.2) h hi ?_ (fun K hK => ?_)
  · have e := cs_status (d := 11) (I := I)
    rw [h.2.2.2.1.1] at e
    exact e
  · have e := ms_status (d := 11) (I := K)
    rw [hK.2.2.1.1] at e
    exact e
theorem st_plait (h : RIC I s) (hi : RII s) : StepOK I s 91 155 [.int x] := by
  obtain ⟨⟨N, m, F⟩, T, R, l, P, f⟩ := s
  exact stp_acts h hi (nPlait_I hi.1) (cs_plait (d := 8) h.1 hi.1) (fun K hK => ms_plait (d := 9) hK.1 hi.1)
theorem st_climb (h : RIC I s) (hi : RII s) : StepOK I s 92 161 [.int x] := by
  obtain ⟨⟨N, m, F⟩, T, R, l, P, f⟩ := s
  exact stp_acts h hi (nClimb_I hi.1) (cs_climb (d := 8) h.1 hi.1) (fun K hK => ms_climb (d := 9) hK.1 hi.1)
theorem st_day (h : RIC I s) (hi : RII s) : StepOK I s 93 162 [] := by
  obtain ⟨⟨N, m, F⟩, T, R, l, P, f⟩ := s
  exact stp_acts h hi (nDay_I hi.1) (cs_day (d := 8) h.1 hi.1) (fun K hK => ms_day (d := 10) hK.1 hi.1)
theorem st_cut (h : RIC I s) (hi : RII s) : StepOK I s 94 163 [.int x] := by
  obtain ⟨⟨N, m, F⟩, T, R, l, P, f⟩ := s
  exact stp_acts h hi (nCut_I hi.1) (cs_cut_ (d := 8) h.1 hi.1) (fun K hK => ms_cut_ (d := 10) hK.1 hi.1)
theorem st_peg (h : RIC I s) (hi : RII s) : StepOK I s 95 164 [.int x] := by
  obtain ⟨⟨N, m, F⟩, T, R, l, P, f⟩ := s
  exact stp_acts h hi (nPeg_I hi.1) (cs_peg (d := 8) h.1 hi.1) (fun K hK => ms_peg (d := 10) hK.1 hi.1)
theorem st_undo (h : RIC I s) (hi : RII s) : StepOK I s 96 150 [] := by
  obtain ⟨⟨N, m, F⟩, T, R, l, P, f⟩ := s
  exact stp_acts h hi (nUndo_I hi.1) (cs_undo (d := 9) h.1 hi.1) (fun K hK => ms_undo (d := 11) hK.1 hi.1)
theorem st_restore (h : RIC I s) (hi : RII s) : StepOK I s 115 189 [.int x] := by
  obtain ⟨⟨N, m, F⟩, T, R, l, P, f⟩ := s
  exact stp_acts h hi (nRestore_I hi.1 hi.2.1) (cs_restore (d := 9) h.1 hi.1 h.2.2.1 hi.2.1) (fun K hK => ms_restore (d := 10) hK.1 hi.1 hK.2.1 hi.2.1)
theorem st_image (h : RIC I s) (hi : RII s) : StepOK I s 114 188 [.int x] := by
  obtain ⟨S, T, R, l, P, f⟩ := s
  exact stp_image h hi (nImage_I hi.1.1 hi.2.1) (cs_image (d := 10) h.1.1 hi.1.1 h.2.2.1) (fun K hK => ms_image (d := 10) hK.1.1 hi.1.1 hK.2.1)
theorem st_ask (h : RIC I s) (hi : RII s) : StepOK I s 119 202 [.int x, .int y] := by
  obtain ⟨S, T, R, l, P, f⟩ := s
  exact stp_trace h hi (cs_ask (d := 4) h.1.1 hi.1.1 h.2.2.2.2.1) (fun K hK => ms_ask (d := 4) hK.1.1 hi.1.1 hK.2.2.2.1)
theorem st_plan (h : RIC I s) (hi : RII s) : StepOK I s 101 178 [.int x, .int y] := by
  obtain ⟨S, T, R, l, P, f⟩ := s
  exact stp_plan h hi (cs_plan (d := 2) h.1.1 hi.1.1 h.2.1) (fun K hK => ms_plan (d := 5) hK.1.1 hi.1.1)
theorem st_never (h : RIC I s) (hi : RII s) : StepOK I s 102 179 [] := by
  obtain ⟨S, T, R, l, P, f⟩ := s
  exact stp_plan h hi (cs_never (d := 2) h.1.1 hi.1.1 h.2.1) (fun K hK => ms_never (d := 5) hK.1.1 hi.1.1)
theorem st_strand (h : RIC I s) (hi : RII s) : StepOK I s 97 165 [.int x, .int y] := stp_ro h hi (cs_strand (d := 10) h.1.1 hi.1.1) (fun K hK => ms_strand (d := 9) hK.1.1 hi.1.1)
theorem st_climber (h : RIC I s) (hi : RII s) : StepOK I s 98 168 [.int x, .int y] := stp_ro h hi (cs_climber (d := 8) h.1.1 hi.1.1) (fun K hK => ms_climber (d := 8) hK.1.1 hi.1.1)
theorem st_due (h : RIC I s) (hi : RII s) : StepOK I s 99 170 [.int x] := stp_ro h hi (cs_due (d := 10) h.1.1 hi.1.1) (fun K hK => ms_due (d := 10) hK.1.1 hi.1.1)
theorem st_borne (h : RIC I s) (hi : RII s) : StepOK I s 100 171 [.int x, .int y] := stp_ro h hi (cs_borne (d := 8) h.1.1 hi.1.1) (fun K hK => ms_borne (d := 8) hK.1.1 hi.1.1)
theorem st_needed (h : RIC I s) (hi : RII s) : StepOK I s 103 180 [.int x] := stp_ro h hi (cs_needed (d := 8) h.1.1 hi.1.1) (fun K hK => ms_needed (d := 8) hK.1.1 hi.1.1)
theorem st_strong (h : RIC I s) (hi : RII s) : StepOK I s 104 182 [.int x] := stp_ro h hi (cs_strong (d := 8) h.1.1 hi.1.1) (fun K hK => ms_strong (d := 7) hK.1.1 hi.1.1)
theorem st_cutMost (h : RIC I s) (hi : RII s) : StepOK I s 105 183 [] := stp_ro h hi (cs_cut (d := 10) h.1.1 hi.1.1) (fun K hK => ms_cut (d := 10) hK.1.1 hi.1.1)
theorem st_comes (h : RIC I s) (hi : RII s) : StepOK I s 106 184 [.int x, .int y] := stp_ro h hi (cs_comes (d := 9) h.1.1 hi.1.1) (fun K hK => ms_comes (d := 9) hK.1.1 hi.1.1)
theorem st_climbed (h : RIC I s) (hi : RII s) : StepOK I s 108 185 [.int x] := stp_ro h hi (cs_climbed (d := 8) h.1.1 hi.1.1) (fun K hK => ms_climbed (d := 8) hK.1.1 hi.1.1)
theorem st_storm (h : RIC I s) (hi : RII s) : StepOK I s 112 187 [.int x, .int y, .int z] := stp_ro h hi (cs_storm (d := 7) h.1.1 hi.1.1) (fun K hK => ms_storm (d := 8) hK.1.1 hi.1.1)
theorem st_kind (h : RIC I s) (hi : RII s) : StepOK I s 116 191 [.int x] := stp_ro h hi (cs_kind (d := 10) h.1.1 hi.1.1) (fun K hK => ms_kind (d := 9) hK.1.1 hi.1.1)
theorem st_trace (h : RIC I s) (hi : RII s) : StepOK I s 120 203 [.int x] := by
  refine stp_ro (A := aTr s.2.2.2.1 x) h hi ?_ (fun K hK => ?_)
  · obtain ⟨a1, a2, a3⟩ := h.2.2.2.2.1
    have e := cs_trace (d := 10) (x := x) a2 a1
    rw [aTr_e a1 a3] at e
    exact e
  · obtain ⟨a1, a2, a3⟩ := hK.2.2.2.1
    have e := ms_trace (d := 10) (x := x) a2 a1
    rw [aTr_e a1 a3] at e
    exact e
theorem st_count (h : RIC I s) (hi : RII s) : StepOK I s 121 205 [.int x] := by
  refine stp_ro (A := aCount s.1.1 (hmR s.2.2.1 8) s.1.2.1 s.2.2.2.2.1.1 x) h hi ?_ (fun K hK => ?_)
  · obtain ⟨-, o, -, -, hm, -⟩ := h.1
    have e := cs_count (d := 10) (w := x) h.1.1 hi.1.1 hm h.2.2.2.2.2.1.1
    rw [hmC_e h.2.2.2.1 8 (Nat.le_refl _)] at e
    exact e
  · have e := ms_count (d := 10) (w := x) hK.1.1 hi.1.1 hK.1.2.1 hK.2.2.2.2.1.1
    rw [hmM_e hK.2.2.1 8 (Nat.le_refl _)] at e
    exact e
end CALLS
/-! at the start -/
def st0 : St := ((Z0, 0, fun _ => Z0), (Z0, fun _ => Z0), (fun _ => 3, Z0, fun _ _ => 0, 0), [], (0, Z0), 0)
theorem II0_o {o k : Nat} (h : ¬ o = 12) (h2 : ¬ o = 274) : II0 o k = 0 := by
  unfold II0
  rw [beqF h, beqF h2]
  rfl
theorem II0_m {o k : Nat} (h : o = 12 ∨ o = 274) (hk : k < 8) : II0 o k = -1 := by
  unfold II0
  rw [Nat.blt_eq.mpr hk]
  rcases h with rfl | rfl <;> rfl
theorem Z0_TI : TI Z0 := ⟨Nat.zero_le _, Nat.zero_le _, Nat.zero_le _, Nat.zero_le _, Nat.zero_le _, Nat.zero_le _, by decide, by decide, Nat.zero_le _, fun k hk => ⟨Nat.zero_le _, Nat.zero_le _, Nat.zero_le _⟩, fun k hk => ⟨Nat.zero_le _, Nat.zero_le _, Nat.zero_le _⟩, fun k hk => absurd hk (Nat.not_lt_zero _), fun k hk => absurd hk (Nat.not_lt_zero _), fun _ => ⟨rfl, rfl⟩, by decide⟩
theorem Z0_Tw {t : Nat} (h : ∀ j, j < 8 → ¬ t + j = 12 ∧ ¬ t + j = 274) : Tw II0 t Z0 := by
  have e : ∀ j k, j < 8 → II0 (t + j) k = 0 := fun j k hj => II0_o (h j hj).1 (h j hj).2
  exact ⟨⟨e 0 0 (by decide), e 0 1 (by decide), e 0 2 (by decide), e 0 3 (by decide), e 0 4 (by decide), e 0 5 (by decide), e 0 6 (by decide), e 0 7 (by decide), e 0 8 (by decide)⟩, fun k _ => ⟨e 1 k (by decide), e 2 k (by decide), e 3 k (by decide)⟩, fun k _ => ⟨e 4 k (by decide), e 5 k (by decide), e 6 k (by decide), e 7 k (by decide)⟩⟩
theorem st0_C : RIC II0 st0 := by
  refine ⟨⟨Z0_Tw (fun j hj => by omega), 0, by decide, rfl, rfl, fun j hj => absurd hj (Nat.not_lt_zero _)⟩, Or.inl ⟨rfl, fun d hd => II0_o (by decide) (by decide)⟩, fun k hk => Or.inl ⟨rfl, II0_o (by omega) (by omega)⟩, ⟨rfl, fun r hr => ⟨Nat.le_refl _, fun _ => II0_m (Or.inl rfl) hr, fun q => absurd q (Nat.lt_irrefl 3)⟩⟩, ⟨Nat.zero_le _, rfl, fun i hi => absurd hi (Nat.not_lt_zero _)⟩, ⟨rfl, fun i hi => absurd hi (Nat.not_lt_zero _)⟩, Z0_Tw (fun j hj => by omega), rfl⟩
theorem st0_M : RIM II0 st0 := by
  refine ⟨⟨fun k hk => II0_o (by decide) (by decide), rfl, fun j hj => absurd hj (Nat.not_lt_zero _)⟩, fun k hk => ⟨II0_o (by decide) (by decide), fun q => absurd q (by decide : ¬ ((0 : Nat) = 1))⟩, ⟨rfl, fun r hr => ⟨Nat.le_refl _, fun _ => II0_m (Or.inr rfl) hr, fun q => absurd q (Nat.lt_irrefl 3)⟩⟩, ⟨Nat.zero_le _, rfl, fun i hi => absurd hi (Nat.not_lt_zero _)⟩, ⟨rfl, fun i hi => absurd hi (Nat.not_lt_zero _)⟩, rfl⟩
theorem st0_I : RII st0 := ⟨⟨Z0_TI, Nat.zero_le _, fun j hj => absurd hj (Nat.not_lt_zero _)⟩, fun k hk => ⟨Nat.zero_le _, fun q => absurd q (by decide : ¬ ((0 : Nat) = 1))⟩, Nat.zero_le _, fun i hi => absurd hi (Nat.not_lt_zero _)⟩
