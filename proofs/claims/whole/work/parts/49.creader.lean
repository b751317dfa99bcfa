/-! the class's reader -/
def RdC (I : Pl) (T : TpS) (s : Nat × Nat) (M : Nat → Nat) : Prop := I 13 4 = nI s.1 ∧ I 13 5 = nI s.2 ∧ Tw I 23 M ∧ TpC I T ∧ s.1 ≤ T.1 ∧ s.2 ≤ 3 ∧ T.1 ≤ 120 ∧ ∀ i, i < T.1 → T.2 i < 256
def rdP (o k : Nat) : Prop := (o = 13 ∧ (k = 4 ∨ k = 5)) ∨ (23 ≤ o ∧ o ≤ 30)
def hV (T : TpS) (p : Nat) : Int32 := if p < T.1 then nI (T.2 p) else -1
section RDC
variable {I J : Pl} {T : TpS} {s : Nat × Nat} {M : Nat → Nat}
theorem RdC.p (h : RdC I T s M) : I 13 4 = nI s.1 := h.1
theorem RdC.f (h : RdC I T s M) : I 13 5 = nI s.2 := h.2.1
theorem RdC.t (h : RdC I T s M) : Tw I 23 M := h.2.2.1
theorem RdC.n (h : RdC I T s M) : I 13 3 = nI T.1 := h.2.2.2.1.1
theorem RdC.b (h : RdC I T s M) {i : Nat} (hi : i < T.1) : I 14 i = nI (T.2 i) := h.2.2.2.1.2 i hi
theorem RdC.lp (h : RdC I T s M) : s.1 ≤ T.1 := h.2.2.2.2.1
theorem RdC.lf (h : RdC I T s M) : s.2 ≤ 3 := h.2.2.2.2.2.1
theorem RdC.ln (h : RdC I T s M) : T.1 ≤ 120 := h.2.2.2.2.2.2.1
theorem RdC.lb (h : RdC I T s M) {i : Nat} (hi : i < T.1) : T.2 i < 256 := h.2.2.2.2.2.2.2 i hi
theorem RdC.setp (h : RdC I T s M) {p f : Nat} (hp : p ≤ T.1) (hf : s.2 = f) : RdC (upN I 13 4 (nI p)) T (p, f) M := ⟨upN_s, by rw [upN_nk (by decide), h.f, hf], h.t.cg (fun o k x y => upN_no (by omega)), ⟨by rw [upN_nk (by decide)]; exact h.n, fun i hi => by rw [upN_no (by decide)]; exact h.b hi⟩, hp, hf ▸ h.lf, h.ln, fun i hi => h.lb hi⟩
theorem RdC.setf (h : RdC I T s M) {p f : Nat} (hf : f ≤ 3) (hp : s.1 = p) : RdC (upN I 13 5 (nI f)) T (p, f) M := ⟨by rw [upN_nk (by decide), h.p, hp], upN_s, h.t.cg (fun o k x y => upN_no (by omega)), ⟨by rw [upN_nk (by decide)]; exact h.n, fun i hi => by rw [upN_no (by decide)]; exact h.b hi⟩, hp ▸ h.lp, hf, h.ln, fun i hi => h.lb hi⟩
theorem RdC.tw (h : RdC I T s M) {M2 : Nat → Nat} (hT : Tw J 23 M2) (hJ : ∀ o k, o < 23 → J o k = I o k) : RdC J T s M2 := ⟨by rw [hJ 13 4 (by decide)]; exact h.p, by rw [hJ 13 5 (by decide)]; exact h.f, hT, ⟨by rw [hJ 13 3 (by decide)]; exact h.n, fun i hi => by rw [hJ 14 i (by decide)]; exact h.b hi⟩, h.lp, h.lf, h.ln, fun i hi => h.lb hi⟩
end RDC
theorem Tw.fd0 {I : Pl} {N : Nat → Nat} {t v : Nat} (h : Tw I t N) : Tw (upN I t 0 (nI v)) t (setN N 8 v) := by
  obtain ⟨⟨h0, h1, h2, h3, h4, h5, h6, h7, h8⟩, hs, hc⟩ := h
  refine ⟨⟨?_, ?_, ?_, ?_, ?_, ?_, ?_, ?_, ?_⟩, fun j hj => ⟨?_, ?_, ?_⟩, fun j hj => ⟨?_, ?_, ?_, ?_⟩⟩
  · rw [upN_s, setN_s]
  · rw [upN_nk (by decide), setN_o (by decide)]; exact h1
  · rw [upN_nk (by decide), setN_o (by decide)]; exact h2
  · rw [upN_nk (by decide), setN_o (by decide)]; exact h3
  · rw [upN_nk (by decide), setN_o (by decide)]; exact h4
  · rw [upN_nk (by decide), setN_o (by decide)]; exact h5
  · rw [upN_nk (by decide), setN_o (by decide)]; exact h6
  · rw [upN_nk (by decide), setN_o (by decide)]; exact h7
  · rw [upN_nk (by decide), setN_o (by decide)]; exact h8
  · rw [upN_no (by omega), setN_o (by omega)]; exact (hs j hj).1
  · rw [upN_no (by omega), setN_o (by omega)]; exact (hs j hj).2.1
  · rw [upN_no (by omega), setN_o (by omega)]; exact (hs j hj).2.2
  · rw [upN_no (by omega), setN_o (by omega)]; exact (hc j hj).1
  · rw [upN_no (by omega), setN_o (by omega)]; exact (hc j hj).2.1
  · rw [upN_no (by omega), setN_o (by omega)]; exact (hc j hj).2.2.1
  · rw [upN_no (by omega), setN_o (by omega)]; exact (hc j hj).2.2.2
theorem Tw.fd1 {I : Pl} {N : Nat → Nat} {t v : Nat} (h : Tw I t N) : Tw (upN I t 1 (nI v)) t (setN N 0 v) := by
  obtain ⟨⟨h0, h1, h2, h3, h4, h5, h6, h7, h8⟩, hs, hc⟩ := h
  refine ⟨⟨?_, ?_, ?_, ?_, ?_, ?_, ?_, ?_, ?_⟩, fun j hj => ⟨?_, ?_, ?_⟩, fun j hj => ⟨?_, ?_, ?_, ?_⟩⟩
  · rw [upN_nk (by decide), setN_o (by decide)]; exact h0
  · rw [upN_s, setN_s]
  · rw [upN_nk (by decide), setN_o (by decide)]; exact h2
  · rw [upN_nk (by decide), setN_o (by decide)]; exact h3
  · rw [upN_nk (by decide), setN_o (by decide)]; exact h4
  · rw [upN_nk (by decide), setN_o (by decide)]; exact h5
  · rw [upN_nk (by decide), setN_o (by decide)]; exact h6
  · rw [upN_nk (by decide), setN_o (by decide)]; exact h7
  · rw [upN_nk (by decide), setN_o (by decide)]; exact h8
  · rw [upN_no (by omega), setN_o (by omega)]; exact (hs j hj).1
  · rw [upN_no (by omega), setN_o (by omega)]; exact (hs j hj).2.1
  · rw [upN_no (by omega), setN_o (by omega)]; exact (hs j hj).2.2
  · rw [upN_no (by omega), setN_o (by omega)]; exact (hc j hj).1
  · rw [upN_no (by omega), setN_o (by omega)]; exact (hc j hj).2.1
  · rw [upN_no (by omega), setN_o (by omega)]; exact (hc j hj).2.2.1
  · rw [upN_no (by omega), setN_o (by omega)]; exact (hc j hj).2.2.2
theorem Tw.fd7 {I : Pl} {N : Nat → Nat} {t v : Nat} (h : Tw I t N) : Tw (upN I t 7 (nI v)) t (setN N 2 v) := by
  obtain ⟨⟨h0, h1, h2, h3, h4, h5, h6, h7, h8⟩, hs, hc⟩ := h
  refine ⟨⟨?_, ?_, ?_, ?_, ?_, ?_, ?_, ?_, ?_⟩, fun j hj => ⟨?_, ?_, ?_⟩, fun j hj => ⟨?_, ?_, ?_, ?_⟩⟩
  · rw [upN_nk (by decide), setN_o (by decide)]; exact h0
  · rw [upN_nk (by decide), setN_o (by decide)]; exact h1
  · rw [upN_nk (by decide), setN_o (by decide)]; exact h2
  · rw [upN_nk (by decide), setN_o (by decide)]; exact h3
  · rw [upN_nk (by decide), setN_o (by decide)]; exact h4
  · rw [upN_nk (by decide), setN_o (by decide)]; exact h5
  · rw [upN_nk (by decide), setN_o (by decide)]; exact h6
  · rw [upN_s, setN_s]
  · rw [upN_nk (by decide), setN_o (by decide)]; exact h8
  · rw [upN_no (by omega), setN_o (by omega)]; exact (hs j hj).1
  · rw [upN_no (by omega), setN_o (by omega)]; exact (hs j hj).2.1
  · rw [upN_no (by omega), setN_o (by omega)]; exact (hs j hj).2.2
  · rw [upN_no (by omega), setN_o (by omega)]; exact (hc j hj).1
  · rw [upN_no (by omega), setN_o (by omega)]; exact (hc j hj).2.1
  · rw [upN_no (by omega), setN_o (by omega)]; exact (hc j hj).2.2.1
  · rw [upN_no (by omega), setN_o (by omega)]; exact (hc j hj).2.2.2
theorem Tw.fd8 {I : Pl} {N : Nat → Nat} {t v : Nat} (h : Tw I t N) : Tw (upN I t 8 (nI v)) t (setN N 3 v) := by
  obtain ⟨⟨h0, h1, h2, h3, h4, h5, h6, h7, h8⟩, hs, hc⟩ := h
  refine ⟨⟨?_, ?_, ?_, ?_, ?_, ?_, ?_, ?_, ?_⟩, fun j hj => ⟨?_, ?_, ?_⟩, fun j hj => ⟨?_, ?_, ?_, ?_⟩⟩
  · rw [upN_nk (by decide), setN_o (by decide)]; exact h0
  · rw [upN_nk (by decide), setN_o (by decide)]; exact h1
  · rw [upN_nk (by decide), setN_o (by decide)]; exact h2
  · rw [upN_nk (by decide), setN_o (by decide)]; exact h3
  · rw [upN_nk (by decide), setN_o (by decide)]; exact h4
  · rw [upN_nk (by decide), setN_o (by decide)]; exact h5
  · rw [upN_nk (by decide), setN_o (by decide)]; exact h6
  · rw [upN_nk (by decide), setN_o (by decide)]; exact h7
  · rw [upN_s, setN_s]
  · rw [upN_no (by omega), setN_o (by omega)]; exact (hs j hj).1
  · rw [upN_no (by omega), setN_o (by omega)]; exact (hs j hj).2.1
  · rw [upN_no (by omega), setN_o (by omega)]; exact (hs j hj).2.2
  · rw [upN_no (by omega), setN_o (by omega)]; exact (hc j hj).1
  · rw [upN_no (by omega), setN_o (by omega)]; exact (hc j hj).2.1
  · rw [upN_no (by omega), setN_o (by omega)]; exact (hc j hj).2.2.1
  · rw [upN_no (by omega), setN_o (by omega)]; exact (hc j hj).2.2.2
theorem Tw.ar1 {I : Pl} {N : Nat → Nat} {t k v : Nat} (h : Tw I t N) (hk : k < 6) : Tw (upN I (t + 1) k (nI v)) t (setN N (9 + k) v) := by
  obtain ⟨⟨h0, h1, h2, h3, h4, h5, h6, h7, h8⟩, hs, hc⟩ := h
  refine ⟨⟨?_, ?_, ?_, ?_, ?_, ?_, ?_, ?_, ?_⟩, fun j hj => ⟨?_, ?_, ?_⟩, fun j hj => ⟨?_, ?_, ?_, ?_⟩⟩
  · rw [upN_no (by omega), setN_o (by omega)]; exact h0
  · rw [upN_no (by omega), setN_o (by omega)]; exact h1
  · rw [upN_no (by omega), setN_o (by omega)]; exact h2
  · rw [upN_no (by omega), setN_o (by omega)]; exact h3
  · rw [upN_no (by omega), setN_o (by omega)]; exact h4
  · rw [upN_no (by omega), setN_o (by omega)]; exact h5
  · rw [upN_no (by omega), setN_o (by omega)]; exact h6
  · rw [upN_no (by omega), setN_o (by omega)]; exact h7
  · rw [upN_no (by omega), setN_o (by omega)]; exact h8
  · by_cases q : j = k
    · subst q; rw [upN_s, setN_s]
    · rw [upN_nk q, setN_o (by omega)]; exact (hs j hj).1
  · rw [upN_no (by omega), setN_o (by omega)]; exact (hs j hj).2.1
  · rw [upN_no (by omega), setN_o (by omega)]; exact (hs j hj).2.2
  · rw [upN_no (by omega), setN_o (by omega)]; exact (hc j hj).1
  · rw [upN_no (by omega), setN_o (by omega)]; exact (hc j hj).2.1
  · rw [upN_no (by omega), setN_o (by omega)]; exact (hc j hj).2.2.1
  · rw [upN_no (by omega), setN_o (by omega)]; exact (hc j hj).2.2.2
theorem Tw.ar2 {I : Pl} {N : Nat → Nat} {t k v : Nat} (h : Tw I t N) (hk : k < 6) : Tw (upN I (t + 2) k (nI v)) t (setN N (15 + k) v) := by
  obtain ⟨⟨h0, h1, h2, h3, h4, h5, h6, h7, h8⟩, hs, hc⟩ := h
  refine ⟨⟨?_, ?_, ?_, ?_, ?_, ?_, ?_, ?_, ?_⟩, fun j hj => ⟨?_, ?_, ?_⟩, fun j hj => ⟨?_, ?_, ?_, ?_⟩⟩
  · rw [upN_no (by omega), setN_o (by omega)]; exact h0
  · rw [upN_no (by omega), setN_o (by omega)]; exact h1
  · rw [upN_no (by omega), setN_o (by omega)]; exact h2
  · rw [upN_no (by omega), setN_o (by omega)]; exact h3
  · rw [upN_no (by omega), setN_o (by omega)]; exact h4
  · rw [upN_no (by omega), setN_o (by omega)]; exact h5
  · rw [upN_no (by omega), setN_o (by omega)]; exact h6
  · rw [upN_no (by omega), setN_o (by omega)]; exact h7
  · rw [upN_no (by omega), setN_o (by omega)]; exact h8
  · rw [upN_no (by omega), setN_o (by omega)]; exact (hs j hj).1
  · by_cases q : j = k
    · subst q; rw [upN_s, setN_s]
    · rw [upN_nk q, setN_o (by omega)]; exact (hs j hj).2.1
  · rw [upN_no (by omega), setN_o (by omega)]; exact (hs j hj).2.2
  · rw [upN_no (by omega), setN_o (by omega)]; exact (hc j hj).1
  · rw [upN_no (by omega), setN_o (by omega)]; exact (hc j hj).2.1
  · rw [upN_no (by omega), setN_o (by omega)]; exact (hc j hj).2.2.1
  · rw [upN_no (by omega), setN_o (by omega)]; exact (hc j hj).2.2.2
theorem Tw.ar4 {I : Pl} {N : Nat → Nat} {t k v : Nat} (h : Tw I t N) (hk : k < 5) : Tw (upN I (t + 4) k (nI v)) t (setN N (27 + k) v) := by
  obtain ⟨⟨h0, h1, h2, h3, h4, h5, h6, h7, h8⟩, hs, hc⟩ := h
  refine ⟨⟨?_, ?_, ?_, ?_, ?_, ?_, ?_, ?_, ?_⟩, fun j hj => ⟨?_, ?_, ?_⟩, fun j hj => ⟨?_, ?_, ?_, ?_⟩⟩
  · rw [upN_no (by omega), setN_o (by omega)]; exact h0
  · rw [upN_no (by omega), setN_o (by omega)]; exact h1
  · rw [upN_no (by omega), setN_o (by omega)]; exact h2
  · rw [upN_no (by omega), setN_o (by omega)]; exact h3
  · rw [upN_no (by omega), setN_o (by omega)]; exact h4
  · rw [upN_no (by omega), setN_o (by omega)]; exact h5
  · rw [upN_no (by omega), setN_o (by omega)]; exact h6
  · rw [upN_no (by omega), setN_o (by omega)]; exact h7
  · rw [upN_no (by omega), setN_o (by omega)]; exact h8
  · rw [upN_no (by omega), setN_o (by omega)]; exact (hs j hj).1
  · rw [upN_no (by omega), setN_o (by omega)]; exact (hs j hj).2.1
  · rw [upN_no (by omega), setN_o (by omega)]; exact (hs j hj).2.2
  · by_cases q : j = k
    · subst q; rw [upN_s, setN_s]
    · rw [upN_nk q, setN_o (by omega)]; exact (hc j hj).1
  · rw [upN_no (by omega), setN_o (by omega)]; exact (hc j hj).2.1
  · rw [upN_no (by omega), setN_o (by omega)]; exact (hc j hj).2.2.1
  · rw [upN_no (by omega), setN_o (by omega)]; exact (hc j hj).2.2.2
theorem Tw.ar5 {I : Pl} {N : Nat → Nat} {t k v : Nat} (h : Tw I t N) (hk : k < 5) : Tw (upN I (t + 5) k (nI v)) t (setN N (32 + k) v) := by
  obtain ⟨⟨h0, h1, h2, h3, h4, h5, h6, h7, h8⟩, hs, hc⟩ := h
  refine ⟨⟨?_, ?_, ?_, ?_, ?_, ?_, ?_, ?_, ?_⟩, fun j hj => ⟨?_, ?_, ?_⟩, fun j hj => ⟨?_, ?_, ?_, ?_⟩⟩
  · rw [upN_no (by omega), setN_o (by omega)]; exact h0
  · rw [upN_no (by omega), setN_o (by omega)]; exact h1
  · rw [upN_no (by omega), setN_o (by omega)]; exact h2
  · rw [upN_no (by omega), setN_o (by omega)]; exact h3
  · rw [upN_no (by omega), setN_o (by omega)]; exact h4
  · rw [upN_no (by omega), setN_o (by omega)]; exact h5
  · rw [upN_no (by omega), setN_o (by omega)]; exact h6
  · rw [upN_no (by omega), setN_o (by omega)]; exact h7
  · rw [upN_no (by omega), setN_o (by omega)]; exact h8
  · rw [upN_no (by omega), setN_o (by omega)]; exact (hs j hj).1
  · rw [upN_no (by omega), setN_o (by omega)]; exact (hs j hj).2.1
  · rw [upN_no (by omega), setN_o (by omega)]; exact (hs j hj).2.2
  · rw [upN_no (by omega), setN_o (by omega)]; exact (hc j hj).1
  · by_cases q : j = k
    · subst q; rw [upN_s, setN_s]
    · rw [upN_nk q, setN_o (by omega)]; exact (hc j hj).2.1
  · rw [upN_no (by omega), setN_o (by omega)]; exact (hc j hj).2.2.1
  · rw [upN_no (by omega), setN_o (by omega)]; exact (hc j hj).2.2.2
theorem Tw.ar6 {I : Pl} {N : Nat → Nat} {t k v : Nat} (h : Tw I t N) (hk : k < 5) : Tw (upN I (t + 6) k (nI v)) t (setN N (37 + k) v) := by
  obtain ⟨⟨h0, h1, h2, h3, h4, h5, h6, h7, h8⟩, hs, hc⟩ := h
  refine ⟨⟨?_, ?_, ?_, ?_, ?_, ?_, ?_, ?_, ?_⟩, fun j hj => ⟨?_, ?_, ?_⟩, fun j hj => ⟨?_, ?_, ?_, ?_⟩⟩
  · rw [upN_no (by omega), setN_o (by omega)]; exact h0
  · rw [upN_no (by omega), setN_o (by omega)]; exact h1
  · rw [upN_no (by omega), setN_o (by omega)]; exact h2
  · rw [upN_no (by omega), setN_o (by omega)]; exact h3
  · rw [upN_no (by omega), setN_o (by omega)]; exact h4
  · rw [upN_no (by omega), setN_o (by omega)]; exact h5
  · rw [upN_no (by omega), setN_o (by omega)]; exact h6
  · rw [upN_no (by omega), setN_o (by omega)]; exact h7
  · rw [upN_no (by omega), setN_o (by omega)]; exact h8
  · rw [upN_no (by omega), setN_o (by omega)]; exact (hs j hj).1
  · rw [upN_no (by omega), setN_o (by omega)]; exact (hs j hj).2.1
  · rw [upN_no (by omega), setN_o (by omega)]; exact (hs j hj).2.2
  · rw [upN_no (by omega), setN_o (by omega)]; exact (hc j hj).1
  · rw [upN_no (by omega), setN_o (by omega)]; exact (hc j hj).2.1
  · by_cases q : j = k
    · subst q; rw [upN_s, setN_s]
    · rw [upN_nk q, setN_o (by omega)]; exact (hc j hj).2.2.1
  · rw [upN_no (by omega), setN_o (by omega)]; exact (hc j hj).2.2.2
section RDT
variable {I : Pl} {T : TpS} {s : Nat × Nat} {M : Nat → Nat} {v k : Nat}
theorem RdC.fd1 (h : RdC I T s M) : RdC (upN I 23 1 (nI v)) T s (setN M 0 v) := h.tw h.t.fd1 (fun o k q => upN_no (by omega))
theorem RdC.fd2 (h : RdC I T s M) : RdC (upN I 23 2 (nI v)) T s (setN M 1 v) := h.tw h.t.fd2 (fun o k q => upN_no (by omega))
theorem RdC.fd7 (h : RdC I T s M) : RdC (upN I 23 7 (nI v)) T s (setN M 2 v) := h.tw h.t.fd7 (fun o k q => upN_no (by omega))
theorem RdC.fd8 (h : RdC I T s M) : RdC (upN I 23 8 (nI v)) T s (setN M 3 v) := h.tw h.t.fd8 (fun o k q => upN_no (by omega))
theorem RdC.ar1 (h : RdC I T s M) (hk : k < 6) : RdC (upN I 24 k (nI v)) T s (setN M (9 + k) v) := h.tw (h.t.ar1 hk) (fun o k q => upN_no (by omega))
theorem RdC.ar2 (h : RdC I T s M) (hk : k < 6) : RdC (upN I 25 k (nI v)) T s (setN M (15 + k) v) := h.tw (h.t.ar2 hk) (fun o k q => upN_no (by omega))
theorem RdC.ar4 (h : RdC I T s M) (hk : k < 5) : RdC (upN I 27 k (nI v)) T s (setN M (27 + k) v) := h.tw (h.t.ar4 hk) (fun o k q => upN_no (by omega))
theorem RdC.ar5 (h : RdC I T s M) (hk : k < 5) : RdC (upN I 28 k (nI v)) T s (setN M (32 + k) v) := h.tw (h.t.ar5 hk) (fun o k q => upN_no (by omega))
theorem RdC.ar6 (h : RdC I T s M) (hk : k < 5) : RdC (upN I 29 k (nI v)) T s (setN M (37 + k) v) := h.tw (h.t.ar6 hk) (fun o k q => upN_no (by omega))
end RDT
set_option maxRecDepth 100000 in
theorem sp_here {d : Nat} {I : Pl} {T : TpS} {s : Nat × Nat} {M : Nat → Nat} (hR : RdC I T s M) : Ev (d + 1) 45 [.ref 13] (mem I) (some (.int (hV T s.1))) (mem I) := by
  have h120 := hR.ln
  have hlp := hR.lp
  have hlf := hR.lf
  refine Ev.only (EvX.enter rfl rfl rfl ?_)
  refine WP.run (pc' := 4) (L' := [.ref 13]) (st' := [.int (I 13 4)]) (I1 := I) 2 rfl ?_
  refine WP.cg (st' := [.int (nI s.1)]) rfl (congrArg (fun z : Int32 => (.int z :: [] : List Value)) ((RdC.p hR))) rfl ?_
  refine WP.run (pc' := 8) (L' := [.ref 13]) (st' := [.int (I 13 3), .int (nI s.1)]) (I1 := I) 2 rfl ?_
  refine WP.cg (st' := [.int (nI T.1), .int (nI s.1)]) rfl (congrArg (fun z : Int32 => (.int z :: [.int (nI s.1)] : List Value)) ((RdC.n hR))) rfl ?_
  refine WP.run (pc' := if (nI T.1) ≤ (nI s.1) then 23 else 11) (L' := [.ref 13]) (st' := []) (I1 := I) 1 rfl ?_
  refine WP.br (fun h1 => ?_) (fun h1 => ?_)
  · have h1 : T.1 ≤ s.1 := nI_le_ (by omega) (by omega) h1
    refine WP.run (pc' := 24) (L' := [.ref 13]) (st' := [.int (-1)]) (I1 := I) 1 rfl ?_
    exact WP.ret rfl rfl (⟨by unfold hV; first | rw [if_pos (by omega)] | rw [if_neg (by omega)], rfl⟩)
  · have h1 : ¬ T.1 ≤ s.1 := fun q => h1 (nI_le_r (by omega) q)
    refine WP.run (pc' := 19) (L' := [.ref 13]) (st' := [.int (I 13 4), .ref 14]) (I1 := I) 4 rfl ?_
    refine WP.cg (st' := [.int (nI s.1), .ref 14]) rfl (congrArg (fun z : Int32 => (.int z :: [.ref 14] : List Value)) ((RdC.p hR))) rfl ?_
    refine WP.iald rfl rfl rfl (by omega) (by decide) ?_
    refine WP.cg (st' := [.int (nI (T.2 s.1))]) rfl (congrArg (fun z : Int32 => (.int z :: [] : List Value)) ((RdC.b hR (i := s.1) (by omega)))) rfl ?_
    refine WP.run (pc' := 24) (L' := [.ref 13]) (st' := [.int (nI (T.2 s.1))]) (I1 := I) 1 rfl ?_
    exact WP.ret rfl rfl (⟨by unfold hV; first | rw [if_pos (by omega)] | rw [if_neg (by omega)], rfl⟩)
set_option maxRecDepth 100000 in
theorem sp_isFig {d : Nat} {I : Pl} {x : Nat} (hx : x < 1000) : Ev (d + 1) 47 [.int (nI x)] (mem I) (some (.int (b2i (48 ≤ x ∧ x ≤ 57)))) (mem I) := by
  refine Ev.only (EvX.enter rfl rfl rfl ?_)
  refine WP.run (pc' := if (nI x) < (nI 48) then 16 else 6) (L' := [.int (nI x)]) (st' := []) (I1 := I) 3 rfl ?_
  refine WP.br (fun h1 => ?_) (fun h1 => ?_)
  · have h1 : x < 48 := nI_lt_ (by omega) (by omega) h1
    refine WP.run (pc' := 17) (L' := [.int (nI x)]) (st' := [.int (nI 0)]) (I1 := I) 1 rfl ?_
    exact WP.ret rfl rfl (⟨b2i01 (b2iF ((by omega))), rfl⟩)
  · have h1 : ¬ x < 48 := fun q => h1 (nI_lt_r (by omega) q)
    refine WP.run (pc' := if (nI 57) < (nI x) then 16 else 12) (L' := [.int (nI x)]) (st' := []) (I1 := I) 3 rfl ?_
    refine WP.br (fun h2 => ?_) (fun h2 => ?_)
    · have h2 : 57 < x := nI_lt_ (by omega) (by omega) h2
      refine WP.run (pc' := 17) (L' := [.int (nI x)]) (st' := [.int (nI 0)]) (I1 := I) 1 rfl ?_
      exact WP.ret rfl rfl (⟨b2i01 (b2iF ((by omega))), rfl⟩)
    · have h2 : ¬ 57 < x := fun q => h2 (nI_lt_r (by omega) q)
      refine WP.run (pc' := 17) (L' := [.int (nI x)]) (st' := [.int (nI 1)]) (I1 := I) 2 rfl ?_
      exact WP.ret rfl rfl (⟨b2i01 (b2iT ((by omega))), rfl⟩)
theorem neg1_ne {c : Nat} (hc : c < 1000) : ¬ (-1 : Int32) = nI c := by
  rw [eq_iff_, nI_int (by omega), show ((-1 : Int32)).toInt = -1 from rfl]
  omega
set_option maxRecDepth 100000 in
theorem sp_rsign {d : Nat} {I : Pl} {T : TpS} {s : Nat × Nat} {M : Nat → Nat} (hR : RdC I T s M) {c : Nat} (hc : c < 200) : EvX (d + 2) 46 [.ref 13, .int (nI c)] I (fun v K => v = none ∧ RdC K T (rdSign T c s) M ∧ Only I K rdP) := by
  have h120 := hR.ln
  have hlp := hR.lp
  have hlf := hR.lf
  refine EvX.enter rfl rfl rfl ?_
  refine WP.run (pc' := 4) (L' := [.ref 13, .int (nI c)]) (st' := [.int (I 13 5)]) (I1 := I) 2 rfl ?_
  refine WP.cg (st' := [.int (nI s.2)]) rfl (congrArg (fun z : Int32 => (.int z :: [] : List Value)) ((RdC.f hR))) rfl ?_
  refine WP.run (pc' := if (nI s.2) = 0 then 8 else 7) (L' := [.ref 13, .int (nI c)]) (st' := []) (I1 := I) 1 rfl ?_
  refine WP.br (fun h1 => ?_) (fun h1 => ?_)
  · have h1 : s.2 = 0 := nI_eq_ (by omega) (by omega) h1
    refine WP.run (pc' := 9) (L' := [.ref 13, .int (nI c)]) (st' := [.ref 13]) (I1 := I) 1 rfl ?_
    refine WP.callV (rest := []) rfl rfl (sp_here (d := d) hR) ?_
    by_cases hp : s.1 < T.1
    · have hb := hR.lb hp
      refine WP.cg (st' := [.int (nI (T.2 s.1))]) rfl (by rw [show hV T s.1 = nI (T.2 s.1) from if_pos hp]; rfl) rfl ?_
      refine WP.run (pc' := if ¬ (nI (T.2 s.1)) = (nI c) then 29 else 16) (L' := [.ref 13, .int (nI c)]) (st' := []) (I1 := I) 2 rfl ?_
      refine WP.br (fun h2 => ?_) (fun h2 => ?_)
      · have h2 : ¬ T.2 s.1 = c := fun q => h2 (nI_eq_r q)
        refine WP.run (pc' := 34) (L' := [.ref 13, .int (nI c)]) (st' := []) (I1 := (upN I 13 5 (nI 1))) 3 rfl ?_
        exact WP.ret rfl rfl (by
                  rw [show rdSign T c s = (s.1, 1) by (unfold rdSign; (repeat first | rw [if_pos (by first | assumption | omega | (refine inA_iff.mpr ?_; omega) | (intro q; have q2 := inA_iff.mp q; omega) | (intro q; omega) | (refine ⟨?_, ?_⟩ <;> rw [nI_int (by omega)] <;> omega) | (rw [nI_int (by omega)]; omega) | (intro q; rw [nI_int (by omega)] at q; omega) | (refine ⟨?_, ?_, ?_⟩ <;> omega) | (intro q; obtain ⟨q1, q2, q3⟩ := q; omega) | fail)] | rw [if_neg (by first | assumption | omega | (refine inA_iff.mpr ?_; omega) | (intro q; have q2 := inA_iff.mp q; omega) | (intro q; omega) | (refine ⟨?_, ?_⟩ <;> rw [nI_int (by omega)] <;> omega) | (rw [nI_int (by omega)]; omega) | (intro q; rw [nI_int (by omega)] at q; omega) | (refine ⟨?_, ?_, ?_⟩ <;> omega) | (intro q; obtain ⟨q1, q2, q3⟩ := q; omega) | fail)])) <;> rfl]
                  exact ⟨rfl, (RdC.setf hR (by omega) rfl), (Only.up Only.rfl_ (Or.inl ⟨rfl, Or.inr rfl⟩))⟩)
      · have h2 : T.2 s.1 = c := nI_eq_ (by omega) (by omega) (Decidable.byContradiction h2)
        refine WP.run (pc' := 21) (L' := [.ref 13, .int (nI c)]) (st' := [.int (I 13 4), .ref 13]) (I1 := I) 3 rfl ?_
        refine WP.cg (st' := [.int (nI s.1), .ref 13]) rfl (congrArg (fun z : Int32 => (.int z :: [.ref 13] : List Value)) ((RdC.p hR))) rfl ?_
        refine WP.run (pc' := 23) (L' := [.ref 13, .int (nI c)]) (st' := [.int ((nI s.1) + (nI 1)), .ref 13]) (I1 := I) 2 rfl ?_
        refine WP.cg (st' := [.int (nI (s.1 + 1)), .ref 13]) rfl (congrArg (fun z : Int32 => (.int z :: [.ref 13] : List Value)) (nI_add s.1 1)) rfl ?_
        refine WP.run (pc' := 34) (L' := [.ref 13, .int (nI c)]) (st' := []) (I1 := (upN I 13 4 (nI (s.1 + 1)))) 2 rfl ?_
        exact WP.ret rfl rfl (by
                  rw [show rdSign T c s = (s.1 + 1, 0) by (unfold rdSign; (repeat first | rw [if_pos (by first | assumption | omega | (refine inA_iff.mpr ?_; omega) | (intro q; have q2 := inA_iff.mp q; omega) | (intro q; omega) | (refine ⟨?_, ?_⟩ <;> rw [nI_int (by omega)] <;> omega) | (rw [nI_int (by omega)]; omega) | (intro q; rw [nI_int (by omega)] at q; omega) | (refine ⟨?_, ?_, ?_⟩ <;> omega) | (intro q; obtain ⟨q1, q2, q3⟩ := q; omega) | fail)] | rw [if_neg (by first | assumption | omega | (refine inA_iff.mpr ?_; omega) | (intro q; have q2 := inA_iff.mp q; omega) | (intro q; omega) | (refine ⟨?_, ?_⟩ <;> rw [nI_int (by omega)] <;> omega) | (rw [nI_int (by omega)]; omega) | (intro q; rw [nI_int (by omega)] at q; omega) | (refine ⟨?_, ?_, ?_⟩ <;> omega) | (intro q; obtain ⟨q1, q2, q3⟩ := q; omega) | fail)])) <;> rfl]
                  exact ⟨rfl, (RdC.setp hR (by omega) (by assumption)), (Only.up Only.rfl_ (Or.inl ⟨rfl, Or.inl rfl⟩))⟩)
    · refine WP.cg (st' := [.int (-1)]) rfl (by rw [show hV T s.1 = -1 from if_neg hp]; rfl) rfl ?_
      refine WP.run (pc' := if ¬ (-1 : Int32) = nI c then 29 else 16) (L' := [.ref 13, .int (nI c)]) (st' := []) (I1 := I) 2 rfl ?_
      refine WP.brT (neg1_ne (by omega)) ?_
      refine WP.run (pc' := 34) (L' := [.ref 13, .int (nI c)]) (st' := []) (I1 := (upN I 13 5 (nI 1))) 3 rfl ?_
      exact WP.ret rfl rfl (by
              rw [show rdSign T c s = (s.1, 1) by (unfold rdSign; (repeat first | rw [if_pos (by first | assumption | omega | (refine inA_iff.mpr ?_; omega) | (intro q; have q2 := inA_iff.mp q; omega) | (intro q; omega) | (refine ⟨?_, ?_⟩ <;> rw [nI_int (by omega)] <;> omega) | (rw [nI_int (by omega)]; omega) | (intro q; rw [nI_int (by omega)] at q; omega) | (refine ⟨?_, ?_, ?_⟩ <;> omega) | (intro q; obtain ⟨q1, q2, q3⟩ := q; omega) | fail)] | rw [if_neg (by first | assumption | omega | (refine inA_iff.mpr ?_; omega) | (intro q; have q2 := inA_iff.mp q; omega) | (intro q; omega) | (refine ⟨?_, ?_⟩ <;> rw [nI_int (by omega)] <;> omega) | (rw [nI_int (by omega)]; omega) | (intro q; rw [nI_int (by omega)] at q; omega) | (refine ⟨?_, ?_, ?_⟩ <;> omega) | (intro q; obtain ⟨q1, q2, q3⟩ := q; omega) | fail)])) <;> rfl]
              exact ⟨rfl, (RdC.setf hR (by omega) rfl), (Only.up Only.rfl_ (Or.inl ⟨rfl, Or.inr rfl⟩))⟩)
  · have h1 : ¬ s.2 = 0 := fun q => h1 (nI_eq_r q)
    exact WP.ret rfl rfl (by
          rw [rdSign_f (by assumption)]
          exact ⟨rfl, hR, Only.rfl_⟩)
set_option maxRecDepth 100000 in
theorem lc_num {d : Nat} {I : Pl} {T : TpS} {s : Nat × Nat} {M : Nat → Nat} (hR : RdC I T s M) {lo hi : Nat} (hf : s.2 = 0) (hlo : lo < 1000) (hhi : hi < 1000) : ∀ k, k ≤ 3 → (∀ j, j < k → fgB T s.1 j = true) → WP (d + 1) (48, 3, (some .int), sc0) 20 [.ref 13, .int (nI lo), .int (nI hi), .int (nI k), .int (nI (nvk T s.1 k)), .int (nI (s.1 + k))] [] I (fun v K => v = some (.int (nI (rdNum T lo hi s).1)) ∧ RdC K T (rdNum T lo hi s).2 M ∧ Only I K rdP) := by
  refine loopUp (fun k hk ih => ?_)
  intro hall
  have h120 := hR.ln
  have hlp := hR.lp
  have hlf := hR.lf
  obtain ⟨hv1, hv2, hv3⟩ := nvk_le (T := T) (p := s.1) k hk hall
  refine WP.run (pc' := 26) (L' := [.ref 13, .int (nI lo), .int (nI hi), .int (nI k), .int (nI (nvk T s.1 k)), .int (nI (s.1 + k))]) (st' := [.int (I 13 3), .int (nI (s.1 + k))]) (I1 := I) 3 rfl ?_
  refine WP.cg (st' := [.int (nI T.1), .int (nI (s.1 + k))]) rfl (congrArg (fun z : Int32 => (.int z :: [.int (nI (s.1 + k))] : List Value)) ((RdC.n hR))) rfl ?_
  refine WP.run (pc' := if (nI T.1) ≤ (nI (s.1 + k)) then 80 else 29) (L' := [.ref 13, .int (nI lo), .int (nI hi), .int (nI k), .int (nI (nvk T s.1 k)), .int (nI (s.1 + k))]) (st' := []) (I1 := I) 1 rfl ?_
  refine WP.br (fun h1 => ?_) (fun h1 => ?_)
  · have h1 : T.1 ≤ s.1 + k := nI_le_ (by omega) (by omega) h1
    have hnf : nfT T s.1 = k := nfT_eq hk hall (by first | exact Or.inl (by omega) | exact Or.inr (fgB_f (by omega)))
    have hin := nfT_in (T := T) (p := s.1) hR.lp
    refine WP.run (pc' := if (nI k) = 0 then 89 else 84) (L' := [.ref 13, .int (nI lo), .int (nI hi), .int (nI k), .int (nI (nvk T s.1 k)), .int (nI (s.1 + k))]) (st' := []) (I1 := I) 2 rfl ?_
    refine WP.br (fun h2 => ?_) (fun h2 => ?_)
    · have h2 : k = 0 := nI_eq_ (by omega) (by omega) h2
      refine WP.run (pc' := 95) (L' := [.ref 13, .int (nI lo), .int (nI hi), .int (nI k), .int (nI (nvk T s.1 k)), .int (nI (s.1 + k))]) (st' := [.int (nI 0)]) (I1 := (upN I 13 5 (nI 1))) 4 rfl ?_
      exact WP.ret rfl rfl (by
              rw [show rdNum T lo hi s = (0, (s.1, 1)) by first | (exfalso; omega) | ((unfold rdNum; rw [if_pos hf, hnf]; (repeat first | rw [if_pos (by first | assumption | omega | (refine inA_iff.mpr ?_; omega) | (intro q; have q2 := inA_iff.mp q; omega) | (intro q; omega) | (refine ⟨?_, ?_⟩ <;> rw [nI_int (by omega)] <;> omega) | (rw [nI_int (by omega)]; omega) | (intro q; rw [nI_int (by omega)] at q; omega) | (refine ⟨?_, ?_, ?_⟩ <;> omega) | (intro q; obtain ⟨q1, q2, q3⟩ := q; omega) | fail)] | rw [if_neg (by first | assumption | omega | (refine inA_iff.mpr ?_; omega) | (intro q; have q2 := inA_iff.mp q; omega) | (intro q; omega) | (refine ⟨?_, ?_⟩ <;> rw [nI_int (by omega)] <;> omega) | (rw [nI_int (by omega)]; omega) | (intro q; rw [nI_int (by omega)] at q; omega) | (refine ⟨?_, ?_, ?_⟩ <;> omega) | (intro q; obtain ⟨q1, q2, q3⟩ := q; omega) | fail)])) <;> rfl)]
              exact ⟨rfl, (RdC.setf hR (by omega) rfl), (Only.up Only.rfl_ (Or.inl ⟨rfl, Or.inr rfl⟩))⟩)
    · have h2 : ¬ k = 0 := fun q => h2 (nI_eq_r q)
      refine WP.run (pc' := if (nI k) ≤ (nI 2) then 96 else 89) (L' := [.ref 13, .int (nI lo), .int (nI hi), .int (nI k), .int (nI (nvk T s.1 k)), .int (nI (s.1 + k))]) (st' := []) (I1 := I) 3 rfl ?_
      refine WP.br (fun h3 => ?_) (fun h3 => ?_)
      · have h3 : k ≤ 2 := nI_le_ (by omega) (by omega) h3
        refine WP.run (pc' := if (nI (nvk T s.1 k)) < (nI lo) then 108 else 102) (L' := [.ref 13, .int (nI lo), .int (nI hi), .int (nI k), .int (nI (nvk T s.1 k)), .int (nI (s.1 + k))]) (st' := []) (I1 := I) 3 rfl ?_
        refine WP.br (fun h4 => ?_) (fun h4 => ?_)
        · have h4 : nvk T s.1 k < lo := nI_lt_ (by omega) (by omega) h4
          refine WP.run (pc' := 114) (L' := [.ref 13, .int (nI lo), .int (nI hi), .int (nI k), .int (nI (nvk T s.1 k)), .int (nI (s.1 + k))]) (st' := [.int (nI 0)]) (I1 := (upN I 13 5 (nI 2))) 4 rfl ?_
          exact WP.ret rfl rfl (by
                      rw [show rdNum T lo hi s = (0, (s.1, 2)) by first | (exfalso; omega) | ((unfold rdNum; rw [if_pos hf, hnf]; (repeat first | rw [if_pos (by first | assumption | omega | (refine inA_iff.mpr ?_; omega) | (intro q; have q2 := inA_iff.mp q; omega) | (intro q; omega) | (refine ⟨?_, ?_⟩ <;> rw [nI_int (by omega)] <;> omega) | (rw [nI_int (by omega)]; omega) | (intro q; rw [nI_int (by omega)] at q; omega) | (refine ⟨?_, ?_, ?_⟩ <;> omega) | (intro q; obtain ⟨q1, q2, q3⟩ := q; omega) | fail)] | rw [if_neg (by first | assumption | omega | (refine inA_iff.mpr ?_; omega) | (intro q; have q2 := inA_iff.mp q; omega) | (intro q; omega) | (refine ⟨?_, ?_⟩ <;> rw [nI_int (by omega)] <;> omega) | (rw [nI_int (by omega)]; omega) | (intro q; rw [nI_int (by omega)] at q; omega) | (refine ⟨?_, ?_, ?_⟩ <;> omega) | (intro q; obtain ⟨q1, q2, q3⟩ := q; omega) | fail)])) <;> rfl)]
                      exact ⟨rfl, (RdC.setf hR (by omega) rfl), (Only.up Only.rfl_ (Or.inl ⟨rfl, Or.inr rfl⟩))⟩)
        · have h4 : ¬ nvk T s.1 k < lo := fun q => h4 (nI_lt_r (by omega) q)
          refine WP.run (pc' := if (nI (nvk T s.1 k)) ≤ (nI hi) then 115 else 108) (L' := [.ref 13, .int (nI lo), .int (nI hi), .int (nI k), .int (nI (nvk T s.1 k)), .int (nI (s.1 + k))]) (st' := []) (I1 := I) 3 rfl ?_
          refine WP.br (fun h5 => ?_) (fun h5 => ?_)
          · have h5 : nvk T s.1 k ≤ hi := nI_le_ (by omega) (by omega) h5
            refine WP.run (pc' := 120) (L' := [.ref 13, .int (nI lo), .int (nI hi), .int (nI k), .int (nI (nvk T s.1 k)), .int (nI (s.1 + k))]) (st' := [.int (I 13 4), .ref 13]) (I1 := I) 3 rfl ?_
            refine WP.cg (st' := [.int (nI s.1), .ref 13]) rfl (congrArg (fun z : Int32 => (.int z :: [.ref 13] : List Value)) ((RdC.p hR))) rfl ?_
            refine WP.run (pc' := 122) (L' := [.ref 13, .int (nI lo), .int (nI hi), .int (nI k), .int (nI (nvk T s.1 k)), .int (nI (s.1 + k))]) (st' := [.int ((nI s.1) + (nI k)), .ref 13]) (I1 := I) 2 rfl ?_
            refine WP.cg (st' := [.int (nI (s.1 + k)), .ref 13]) rfl (congrArg (fun z : Int32 => (.int z :: [.ref 13] : List Value)) (nI_add s.1 k)) rfl ?_
            refine WP.run (pc' := 127) (L' := [.ref 13, .int (nI lo), .int (nI hi), .int (nI k), .int (nI (nvk T s.1 k)), .int (nI (s.1 + k))]) (st' := [.int (nI (nvk T s.1 k))]) (I1 := (upN I 13 4 (nI (s.1 + k)))) 2 rfl ?_
            exact WP.ret rfl rfl (by
                          rw [show rdNum T lo hi s = (nvk T s.1 k, (s.1 + k, 0)) by first | (exfalso; omega) | ((unfold rdNum; rw [if_pos hf, hnf]; (repeat first | rw [if_pos (by first | assumption | omega | (refine inA_iff.mpr ?_; omega) | (intro q; have q2 := inA_iff.mp q; omega) | (intro q; omega) | (refine ⟨?_, ?_⟩ <;> rw [nI_int (by omega)] <;> omega) | (rw [nI_int (by omega)]; omega) | (intro q; rw [nI_int (by omega)] at q; omega) | (refine ⟨?_, ?_, ?_⟩ <;> omega) | (intro q; obtain ⟨q1, q2, q3⟩ := q; omega) | fail)] | rw [if_neg (by first | assumption | omega | (refine inA_iff.mpr ?_; omega) | (intro q; have q2 := inA_iff.mp q; omega) | (intro q; omega) | (refine ⟨?_, ?_⟩ <;> rw [nI_int (by omega)] <;> omega) | (rw [nI_int (by omega)]; omega) | (intro q; rw [nI_int (by omega)] at q; omega) | (refine ⟨?_, ?_, ?_⟩ <;> omega) | (intro q; obtain ⟨q1, q2, q3⟩ := q; omega) | fail)])) <;> rfl)]
                          exact ⟨rfl, (RdC.setp hR (by omega) hf), (Only.up Only.rfl_ (Or.inl ⟨rfl, Or.inl rfl⟩))⟩)
          · have h5 : ¬ nvk T s.1 k ≤ hi := fun q => h5 (nI_le_r (by omega) q)
            refine WP.run (pc' := 114) (L' := [.ref 13, .int (nI lo), .int (nI hi), .int (nI k), .int (nI (nvk T s.1 k)), .int (nI (s.1 + k))]) (st' := [.int (nI 0)]) (I1 := (upN I 13 5 (nI 2))) 4 rfl ?_
            exact WP.ret rfl rfl (by
                          rw [show rdNum T lo hi s = (0, (s.1, 2)) by first | (exfalso; omega) | ((unfold rdNum; rw [if_pos hf, hnf]; (repeat first | rw [if_pos (by first | assumption | omega | (refine inA_iff.mpr ?_; omega) | (intro q; have q2 := inA_iff.mp q; omega) | (intro q; omega) | (refine ⟨?_, ?_⟩ <;> rw [nI_int (by omega)] <;> omega) | (rw [nI_int (by omega)]; omega) | (intro q; rw [nI_int (by omega)] at q; omega) | (refine ⟨?_, ?_, ?_⟩ <;> omega) | (intro q; obtain ⟨q1, q2, q3⟩ := q; omega) | fail)] | rw [if_neg (by first | assumption | omega | (refine inA_iff.mpr ?_; omega) | (intro q; have q2 := inA_iff.mp q; omega) | (intro q; omega) | (refine ⟨?_, ?_⟩ <;> rw [nI_int (by omega)] <;> omega) | (rw [nI_int (by omega)]; omega) | (intro q; rw [nI_int (by omega)] at q; omega) | (refine ⟨?_, ?_, ?_⟩ <;> omega) | (intro q; obtain ⟨q1, q2, q3⟩ := q; omega) | fail)])) <;> rfl)]
                          exact ⟨rfl, (RdC.setf hR (by omega) rfl), (Only.up Only.rfl_ (Or.inl ⟨rfl, Or.inr rfl⟩))⟩)
      · have h3 : ¬ k ≤ 2 := fun q => h3 (nI_le_r (by omega) q)
        refine WP.run (pc' := 95) (L' := [.ref 13, .int (nI lo), .int (nI hi), .int (nI k), .int (nI (nvk T s.1 k)), .int (nI (s.1 + k))]) (st' := [.int (nI 0)]) (I1 := (upN I 13 5 (nI 1))) 4 rfl ?_
        exact WP.ret rfl rfl (by
                  rw [show rdNum T lo hi s = (0, (s.1, 1)) by first | (exfalso; omega) | ((unfold rdNum; rw [if_pos hf, hnf]; (repeat first | rw [if_pos (by first | assumption | omega | (refine inA_iff.mpr ?_; omega) | (intro q; have q2 := inA_iff.mp q; omega) | (intro q; omega) | (refine ⟨?_, ?_⟩ <;> rw [nI_int (by omega)] <;> omega) | (rw [nI_int (by omega)]; omega) | (intro q; rw [nI_int (by omega)] at q; omega) | (refine ⟨?_, ?_, ?_⟩ <;> omega) | (intro q; obtain ⟨q1, q2, q3⟩ := q; omega) | fail)] | rw [if_neg (by first | assumption | omega | (refine inA_iff.mpr ?_; omega) | (intro q; have q2 := inA_iff.mp q; omega) | (intro q; omega) | (refine ⟨?_, ?_⟩ <;> rw [nI_int (by omega)] <;> omega) | (rw [nI_int (by omega)]; omega) | (intro q; rw [nI_int (by omega)] at q; omega) | (refine ⟨?_, ?_, ?_⟩ <;> omega) | (intro q; obtain ⟨q1, q2, q3⟩ := q; omega) | fail)])) <;> rfl)]
                  exact ⟨rfl, (RdC.setf hR (by omega) rfl), (Only.up Only.rfl_ (Or.inl ⟨rfl, Or.inr rfl⟩))⟩)
  · have h1 : ¬ T.1 ≤ s.1 + k := fun q => h1 (nI_le_r (by omega) q)
    refine WP.run (pc' := 35) (L' := [.ref 13, .int (nI lo), .int (nI hi), .int (nI k), .int (nI (nvk T s.1 k)), .int (nI (s.1 + k))]) (st' := [.int (I 13 4), .int (nI (s.1 + k))]) (I1 := I) 3 rfl ?_
    refine WP.cg (st' := [.int (nI s.1), .int (nI (s.1 + k))]) rfl (congrArg (fun z : Int32 => (.int z :: [.int (nI (s.1 + k))] : List Value)) ((RdC.p hR))) rfl ?_
    refine WP.run (pc' := 37) (L' := [.ref 13, .int (nI lo), .int (nI hi), .int (nI k), .int (nI (nvk T s.1 k)), .int (nI (s.1 + k))]) (st' := [.int ((nI s.1) + (nI 3)), .int (nI (s.1 + k))]) (I1 := I) 2 rfl ?_
    refine WP.cg (st' := [.int (nI (s.1 + 3)), .int (nI (s.1 + k))]) rfl (congrArg (fun z : Int32 => (.int z :: [.int (nI (s.1 + k))] : List Value)) (nI_add s.1 3)) rfl ?_
    refine WP.run (pc' := if (nI (s.1 + 3)) ≤ (nI (s.1 + k)) then 80 else 40) (L' := [.ref 13, .int (nI lo), .int (nI hi), .int (nI k), .int (nI (nvk T s.1 k)), .int (nI (s.1 + k))]) (st' := []) (I1 := I) 1 rfl ?_
    refine WP.br (fun h6 => ?_) (fun h6 => ?_)
    · have h6 : s.1 + 3 ≤ s.1 + k := nI_le_ (by omega) (by omega) h6
      have hnf : nfT T s.1 = k := nfT_eq hk hall (by first | exact Or.inl (by omega) | exact Or.inr (fgB_f (by omega)))
      have hin := nfT_in (T := T) (p := s.1) hR.lp
      refine WP.run (pc' := if (nI k) = 0 then 89 else 84) (L' := [.ref 13, .int (nI lo), .int (nI hi), .int (nI k), .int (nI (nvk T s.1 k)), .int (nI (s.1 + k))]) (st' := []) (I1 := I) 2 rfl ?_
      refine WP.br (fun h7 => ?_) (fun h7 => ?_)
      · have h7 : k = 0 := nI_eq_ (by omega) (by omega) h7
        refine WP.run (pc' := 95) (L' := [.ref 13, .int (nI lo), .int (nI hi), .int (nI k), .int (nI (nvk T s.1 k)), .int (nI (s.1 + k))]) (st' := [.int (nI 0)]) (I1 := (upN I 13 5 (nI 1))) 4 rfl ?_
        exact WP.ret rfl rfl (by
                  rw [show rdNum T lo hi s = (0, (s.1, 1)) by first | (exfalso; omega) | ((unfold rdNum; rw [if_pos hf, hnf]; (repeat first | rw [if_pos (by first | assumption | omega | (refine inA_iff.mpr ?_; omega) | (intro q; have q2 := inA_iff.mp q; omega) | (intro q; omega) | (refine ⟨?_, ?_⟩ <;> rw [nI_int (by omega)] <;> omega) | (rw [nI_int (by omega)]; omega) | (intro q; rw [nI_int (by omega)] at q; omega) | (refine ⟨?_, ?_, ?_⟩ <;> omega) | (intro q; obtain ⟨q1, q2, q3⟩ := q; omega) | fail)] | rw [if_neg (by first | assumption | omega | (refine inA_iff.mpr ?_; omega) | (intro q; have q2 := inA_iff.mp q; omega) | (intro q; omega) | (refine ⟨?_, ?_⟩ <;> rw [nI_int (by omega)] <;> omega) | (rw [nI_int (by omega)]; omega) | (intro q; rw [nI_int (by omega)] at q; omega) | (refine ⟨?_, ?_, ?_⟩ <;> omega) | (intro q; obtain ⟨q1, q2, q3⟩ := q; omega) | fail)])) <;> rfl)]
                  exact ⟨rfl, (RdC.setf hR (by omega) rfl), (Only.up Only.rfl_ (Or.inl ⟨rfl, Or.inr rfl⟩))⟩)
      · have h7 : ¬ k = 0 := fun q => h7 (nI_eq_r q)
        refine WP.run (pc' := if (nI k) ≤ (nI 2) then 96 else 89) (L' := [.ref 13, .int (nI lo), .int (nI hi), .int (nI k), .int (nI (nvk T s.1 k)), .int (nI (s.1 + k))]) (st' := []) (I1 := I) 3 rfl ?_
        refine WP.br (fun h8 => ?_) (fun h8 => ?_)
        · have h8 : k ≤ 2 := nI_le_ (by omega) (by omega) h8
          refine WP.run (pc' := if (nI (nvk T s.1 k)) < (nI lo) then 108 else 102) (L' := [.ref 13, .int (nI lo), .int (nI hi), .int (nI k), .int (nI (nvk T s.1 k)), .int (nI (s.1 + k))]) (st' := []) (I1 := I) 3 rfl ?_
          refine WP.br (fun h9 => ?_) (fun h9 => ?_)
          · have h9 : nvk T s.1 k < lo := nI_lt_ (by omega) (by omega) h9
            refine WP.run (pc' := 114) (L' := [.ref 13, .int (nI lo), .int (nI hi), .int (nI k), .int (nI (nvk T s.1 k)), .int (nI (s.1 + k))]) (st' := [.int (nI 0)]) (I1 := (upN I 13 5 (nI 2))) 4 rfl ?_
            exact WP.ret rfl rfl (by
                          rw [show rdNum T lo hi s = (0, (s.1, 2)) by first | (exfalso; omega) | ((unfold rdNum; rw [if_pos hf, hnf]; (repeat first | rw [if_pos (by first | assumption | omega | (refine inA_iff.mpr ?_; omega) | (intro q; have q2 := inA_iff.mp q; omega) | (intro q; omega) | (refine ⟨?_, ?_⟩ <;> rw [nI_int (by omega)] <;> omega) | (rw [nI_int (by omega)]; omega) | (intro q; rw [nI_int (by omega)] at q; omega) | (refine ⟨?_, ?_, ?_⟩ <;> omega) | (intro q; obtain ⟨q1, q2, q3⟩ := q; omega) | fail)] | rw [if_neg (by first | assumption | omega | (refine inA_iff.mpr ?_; omega) | (intro q; have q2 := inA_iff.mp q; omega) | (intro q; omega) | (refine ⟨?_, ?_⟩ <;> rw [nI_int (by omega)] <;> omega) | (rw [nI_int (by omega)]; omega) | (intro q; rw [nI_int (by omega)] at q; omega) | (refine ⟨?_, ?_, ?_⟩ <;> omega) | (intro q; obtain ⟨q1, q2, q3⟩ := q; omega) | fail)])) <;> rfl)]
                          exact ⟨rfl, (RdC.setf hR (by omega) rfl), (Only.up Only.rfl_ (Or.inl ⟨rfl, Or.inr rfl⟩))⟩)
          · have h9 : ¬ nvk T s.1 k < lo := fun q => h9 (nI_lt_r (by omega) q)
            refine WP.run (pc' := if (nI (nvk T s.1 k)) ≤ (nI hi) then 115 else 108) (L' := [.ref 13, .int (nI lo), .int (nI hi), .int (nI k), .int (nI (nvk T s.1 k)), .int (nI (s.1 + k))]) (st' := []) (I1 := I) 3 rfl ?_
            refine WP.br (fun h10 => ?_) (fun h10 => ?_)
            · have h10 : nvk T s.1 k ≤ hi := nI_le_ (by omega) (by omega) h10
              refine WP.run (pc' := 120) (L' := [.ref 13, .int (nI lo), .int (nI hi), .int (nI k), .int (nI (nvk T s.1 k)), .int (nI (s.1 + k))]) (st' := [.int (I 13 4), .ref 13]) (I1 := I) 3 rfl ?_
              refine WP.cg (st' := [.int (nI s.1), .ref 13]) rfl (congrArg (fun z : Int32 => (.int z :: [.ref 13] : List Value)) ((RdC.p hR))) rfl ?_
              refine WP.run (pc' := 122) (L' := [.ref 13, .int (nI lo), .int (nI hi), .int (nI k), .int (nI (nvk T s.1 k)), .int (nI (s.1 + k))]) (st' := [.int ((nI s.1) + (nI k)), .ref 13]) (I1 := I) 2 rfl ?_
              refine WP.cg (st' := [.int (nI (s.1 + k)), .ref 13]) rfl (congrArg (fun z : Int32 => (.int z :: [.ref 13] : List Value)) (nI_add s.1 k)) rfl ?_
              refine WP.run (pc' := 127) (L' := [.ref 13, .int (nI lo), .int (nI hi), .int (nI k), .int (nI (nvk T s.1 k)), .int (nI (s.1 + k))]) (st' := [.int (nI (nvk T s.1 k))]) (I1 := (upN I 13 4 (nI (s.1 + k)))) 2 rfl ?_
              exact WP.ret rfl rfl (by
                              rw [show rdNum T lo hi s = (nvk T s.1 k, (s.1 + k, 0)) by first | (exfalso; omega) | ((unfold rdNum; rw [if_pos hf, hnf]; (repeat first | rw [if_pos (by first | assumption | omega | (refine inA_iff.mpr ?_; omega) | (intro q; have q2 := inA_iff.mp q; omega) | (intro q; omega) | (refine ⟨?_, ?_⟩ <;> rw [nI_int (by omega)] <;> omega) | (rw [nI_int (by omega)]; omega) | (intro q; rw [nI_int (by omega)] at q; omega) | (refine ⟨?_, ?_, ?_⟩ <;> omega) | (intro q; obtain ⟨q1, q2, q3⟩ := q; omega) | fail)] | rw [if_neg (by first | assumption | omega | (refine inA_iff.mpr ?_; omega) | (intro q; have q2 := inA_iff.mp q; omega) | (intro q; omega) | (refine ⟨?_, ?_⟩ <;> rw [nI_int (by omega)] <;> omega) | (rw [nI_int (by omega)]; omega) | (intro q; rw [nI_int (by omega)] at q; omega) | (refine ⟨?_, ?_, ?_⟩ <;> omega) | (intro q; obtain ⟨q1, q2, q3⟩ := q; omega) | fail)])) <;> rfl)]
                              exact ⟨rfl, (RdC.setp hR (by omega) hf), (Only.up Only.rfl_ (Or.inl ⟨rfl, Or.inl rfl⟩))⟩)
            · have h10 : ¬ nvk T s.1 k ≤ hi := fun q => h10 (nI_le_r (by omega) q)
              refine WP.run (pc' := 114) (L' := [.ref 13, .int (nI lo), .int (nI hi), .int (nI k), .int (nI (nvk T s.1 k)), .int (nI (s.1 + k))]) (st' := [.int (nI 0)]) (I1 := (upN I 13 5 (nI 2))) 4 rfl ?_
              exact WP.ret rfl rfl (by
                              rw [show rdNum T lo hi s = (0, (s.1, 2)) by first | (exfalso; omega) | ((unfold rdNum; rw [if_pos hf, hnf]; (repeat first | rw [if_pos (by first | assumption | omega | (refine inA_iff.mpr ?_; omega) | (intro q; have q2 := inA_iff.mp q; omega) | (intro q; omega) | (refine ⟨?_, ?_⟩ <;> rw [nI_int (by omega)] <;> omega) | (rw [nI_int (by omega)]; omega) | (intro q; rw [nI_int (by omega)] at q; omega) | (refine ⟨?_, ?_, ?_⟩ <;> omega) | (intro q; obtain ⟨q1, q2, q3⟩ := q; omega) | fail)] | rw [if_neg (by first | assumption | omega | (refine inA_iff.mpr ?_; omega) | (intro q; have q2 := inA_iff.mp q; omega) | (intro q; omega) | (refine ⟨?_, ?_⟩ <;> rw [nI_int (by omega)] <;> omega) | (rw [nI_int (by omega)]; omega) | (intro q; rw [nI_int (by omega)] at q; omega) | (refine ⟨?_, ?_, ?_⟩ <;> omega) | (intro q; obtain ⟨q1, q2, q3⟩ := q; omega) | fail)])) <;> rfl)]
                              exact ⟨rfl, (RdC.setf hR (by omega) rfl), (Only.up Only.rfl_ (Or.inl ⟨rfl, Or.inr rfl⟩))⟩)
        · have h8 : ¬ k ≤ 2 := fun q => h8 (nI_le_r (by omega) q)
          refine WP.run (pc' := 95) (L' := [.ref 13, .int (nI lo), .int (nI hi), .int (nI k), .int (nI (nvk T s.1 k)), .int (nI (s.1 + k))]) (st' := [.int (nI 0)]) (I1 := (upN I 13 5 (nI 1))) 4 rfl ?_
          exact WP.ret rfl rfl (by
                      rw [show rdNum T lo hi s = (0, (s.1, 1)) by first | (exfalso; omega) | ((unfold rdNum; rw [if_pos hf, hnf]; (repeat first | rw [if_pos (by first | assumption | omega | (refine inA_iff.mpr ?_; omega) | (intro q; have q2 := inA_iff.mp q; omega) | (intro q; omega) | (refine ⟨?_, ?_⟩ <;> rw [nI_int (by omega)] <;> omega) | (rw [nI_int (by omega)]; omega) | (intro q; rw [nI_int (by omega)] at q; omega) | (refine ⟨?_, ?_, ?_⟩ <;> omega) | (intro q; obtain ⟨q1, q2, q3⟩ := q; omega) | fail)] | rw [if_neg (by first | assumption | omega | (refine inA_iff.mpr ?_; omega) | (intro q; have q2 := inA_iff.mp q; omega) | (intro q; omega) | (refine ⟨?_, ?_⟩ <;> rw [nI_int (by omega)] <;> omega) | (rw [nI_int (by omega)]; omega) | (intro q; rw [nI_int (by omega)] at q; omega) | (refine ⟨?_, ?_, ?_⟩ <;> omega) | (intro q; obtain ⟨q1, q2, q3⟩ := q; omega) | fail)])) <;> rfl)]
                      exact ⟨rfl, (RdC.setf hR (by omega) rfl), (Only.up Only.rfl_ (Or.inl ⟨rfl, Or.inr rfl⟩))⟩)
    · have h6 : ¬ s.1 + 3 ≤ s.1 + k := fun q => h6 (nI_le_r (by omega) q)
      have hb9 := hR.lb (i := s.1 + k) (by omega)
      refine WP.run (pc' := 46) (L' := [.ref 13, .int (nI lo), .int (nI hi), .int (nI k), .int (nI (nvk T s.1 k)), .int (nI (s.1 + k))]) (st' := [.int (nI (s.1 + k)), .ref 14]) (I1 := I) 3 rfl ?_
      refine WP.iald rfl rfl rfl (by omega) (by decide) ?_
      refine WP.cg (st' := [.int (nI (T.2 (s.1 + k)))]) rfl (congrArg (fun z : Int32 => (.int z :: [] : List Value)) ((RdC.b hR (i := s.1 + k) (by omega)))) rfl ?_
      refine WP.callB (rest := []) rfl rfl (sp_isFig (d := d) (x := T.2 (s.1 + k)) (by have := RdC.lb hR (i := s.1 + k) (by omega); omega)) (fun h11 => ?_) (fun h11 => ?_)
      · refine WP.run (pc' := 58) (L' := [.ref 13, .int (nI lo), .int (nI hi), .int (nI k), .int (nI (nvk T s.1 k)), .int (nI (s.1 + k))]) (st' := [.int ((nI 10) * (nI (nvk T s.1 k)))]) (I1 := I) 4 rfl ?_
        refine WP.cg (st' := [.int (nI (10 * (nvk T s.1 k)))]) rfl (congrArg (fun z : Int32 => (.int z :: [] : List Value)) (pk_mul 10 (nvk T s.1 k))) rfl ?_
        refine WP.run (pc' := 64) (L' := [.ref 13, .int (nI lo), .int (nI hi), .int (nI k), .int (nI (nvk T s.1 k)), .int (nI (s.1 + k))]) (st' := [.int (nI (s.1 + k)), .ref 14, .int (nI (10 * (nvk T s.1 k)))]) (I1 := I) 3 rfl ?_
        refine WP.iald rfl rfl rfl (by omega) (by decide) ?_
        refine WP.cg (st' := [.int (nI (T.2 (s.1 + k))), .int (nI (10 * (nvk T s.1 k)))]) rfl (congrArg (fun z : Int32 => (.int z :: [.int (nI (10 * (nvk T s.1 k)))] : List Value)) ((RdC.b hR (i := s.1 + k) (by omega)))) rfl ?_
        refine WP.run (pc' := 66) (L' := [.ref 13, .int (nI lo), .int (nI hi), .int (nI k), .int (nI (nvk T s.1 k)), .int (nI (s.1 + k))]) (st' := [.int ((nI (10 * (nvk T s.1 k))) + (nI (T.2 (s.1 + k))))]) (I1 := I) 1 rfl ?_
        refine WP.cg (st' := [.int (nI ((10 * (nvk T s.1 k)) + (T.2 (s.1 + k))))]) rfl (congrArg (fun z : Int32 => (.int z :: [] : List Value)) (nI_add (10 * (nvk T s.1 k)) (T.2 (s.1 + k)))) rfl ?_
        refine WP.run (pc' := 69) (L' := [.ref 13, .int (nI lo), .int (nI hi), .int (nI k), .int (nI (nvk T s.1 k)), .int (nI (s.1 + k))]) (st' := [.int ((nI ((10 * (nvk T s.1 k)) + (T.2 (s.1 + k)))) - (nI 48))]) (I1 := I) 2 rfl ?_
        refine WP.cg (st' := [.int (nI (((10 * (nvk T s.1 k)) + (T.2 (s.1 + k))) - 48))]) rfl (congrArg (fun z : Int32 => (.int z :: [] : List Value)) (pk_sub (a := (10 * (nvk T s.1 k)) + (T.2 (s.1 + k))) (b := 48) (by omega))) rfl ?_
        refine WP.run (pc' := 74) (L' := [.ref 13, .int (nI lo), .int (nI hi), .int ((nI k) + nI 1), .int (nI (((10 * (nvk T s.1 k)) + (T.2 (s.1 + k))) - 48)), .int (nI (s.1 + k))]) (st' := []) (I1 := I) 2 rfl ?_
        refine WP.cg (L' := [.ref 13, .int (nI lo), .int (nI hi), .int (nI (k + 1)), .int (nI (((10 * (nvk T s.1 k)) + (T.2 (s.1 + k))) - 48)), .int (nI (s.1 + k))]) (congrArg (fun z : Int32 => ([.ref 13, .int (nI lo), .int (nI hi), .int z, .int (nI (((10 * (nvk T s.1 k)) + (T.2 (s.1 + k))) - 48)), .int (nI (s.1 + k))] : List Value)) (nI_add k 1)) rfl rfl ?_
        refine WP.run (pc' := 77) (L' := [.ref 13, .int (nI lo), .int (nI hi), .int (nI (k + 1)), .int (nI (((10 * (nvk T s.1 k)) + (T.2 (s.1 + k))) - 48)), .int ((nI (s.1 + k)) + nI 1)]) (st' := []) (I1 := I) 1 rfl ?_
        refine WP.cg (L' := [.ref 13, .int (nI lo), .int (nI hi), .int (nI (k + 1)), .int (nI (((10 * (nvk T s.1 k)) + (T.2 (s.1 + k))) - 48)), .int (nI (s.1 + k + 1))]) (congrArg (fun z : Int32 => ([.ref 13, .int (nI lo), .int (nI hi), .int (nI (k + 1)), .int (nI (((10 * (nvk T s.1 k)) + (T.2 (s.1 + k))) - 48)), .int z] : List Value)) (nI_add (s.1 + k) 1)) rfl rfl ?_
        refine WP.run (pc' := 20) (L' := [.ref 13, .int (nI lo), .int (nI hi), .int (nI (k + 1)), .int (nI (((10 * (nvk T s.1 k)) + (T.2 (s.1 + k))) - 48)), .int (nI (s.1 + k + 1))]) (st' := []) (I1 := I) 1 rfl ?_
        have hfg : fgB T s.1 k = true := fgB_t (by omega) (by omega) (by omega)
        refine WP.cg (L' := [.ref 13, .int (nI lo), .int (nI hi), .int (nI (k + 1)), .int (nI (nvk T s.1 (k + 1))), .int (nI (s.1 + (k + 1)))]) rfl rfl rfl (ih (by omega) (fun j hj => by
          by_cases q : j = k
          · rw [q]
            exact hfg
          · exact hall j (by omega)))
      · refine WP.run (pc' := 80) (L' := [.ref 13, .int (nI lo), .int (nI hi), .int (nI k), .int (nI (nvk T s.1 k)), .int (nI (s.1 + k))]) (st' := []) (I1 := I) 1 rfl ?_
        have hnf : nfT T s.1 = k := nfT_eq hk hall (by first | exact Or.inl (by omega) | exact Or.inr (fgB_f (by omega)))
        have hin := nfT_in (T := T) (p := s.1) hR.lp
        refine WP.run (pc' := if (nI k) = 0 then 89 else 84) (L' := [.ref 13, .int (nI lo), .int (nI hi), .int (nI k), .int (nI (nvk T s.1 k)), .int (nI (s.1 + k))]) (st' := []) (I1 := I) 2 rfl ?_
        refine WP.br (fun h12 => ?_) (fun h12 => ?_)
        · have h12 : k = 0 := nI_eq_ (by omega) (by omega) h12
          refine WP.run (pc' := 95) (L' := [.ref 13, .int (nI lo), .int (nI hi), .int (nI k), .int (nI (nvk T s.1 k)), .int (nI (s.1 + k))]) (st' := [.int (nI 0)]) (I1 := (upN I 13 5 (nI 1))) 4 rfl ?_
          exact WP.ret rfl rfl (by
                      rw [show rdNum T lo hi s = (0, (s.1, 1)) by first | (exfalso; omega) | ((unfold rdNum; rw [if_pos hf, hnf]; (repeat first | rw [if_pos (by first | assumption | omega | (refine inA_iff.mpr ?_; omega) | (intro q; have q2 := inA_iff.mp q; omega) | (intro q; omega) | (refine ⟨?_, ?_⟩ <;> rw [nI_int (by omega)] <;> omega) | (rw [nI_int (by omega)]; omega) | (intro q; rw [nI_int (by omega)] at q; omega) | (refine ⟨?_, ?_, ?_⟩ <;> omega) | (intro q; obtain ⟨q1, q2, q3⟩ := q; omega) | fail)] | rw [if_neg (by first | assumption | omega | (refine inA_iff.mpr ?_; omega) | (intro q; have q2 := inA_iff.mp q; omega) | (intro q; omega) | (refine ⟨?_, ?_⟩ <;> rw [nI_int (by omega)] <;> omega) | (rw [nI_int (by omega)]; omega) | (intro q; rw [nI_int (by omega)] at q; omega) | (refine ⟨?_, ?_, ?_⟩ <;> omega) | (intro q; obtain ⟨q1, q2, q3⟩ := q; omega) | fail)])) <;> rfl)]
                      exact ⟨rfl, (RdC.setf hR (by omega) rfl), (Only.up Only.rfl_ (Or.inl ⟨rfl, Or.inr rfl⟩))⟩)
        · have h12 : ¬ k = 0 := fun q => h12 (nI_eq_r q)
          refine WP.run (pc' := if (nI k) ≤ (nI 2) then 96 else 89) (L' := [.ref 13, .int (nI lo), .int (nI hi), .int (nI k), .int (nI (nvk T s.1 k)), .int (nI (s.1 + k))]) (st' := []) (I1 := I) 3 rfl ?_
          refine WP.br (fun h13 => ?_) (fun h13 => ?_)
          · have h13 : k ≤ 2 := nI_le_ (by omega) (by omega) h13
            refine WP.run (pc' := if (nI (nvk T s.1 k)) < (nI lo) then 108 else 102) (L' := [.ref 13, .int (nI lo), .int (nI hi), .int (nI k), .int (nI (nvk T s.1 k)), .int (nI (s.1 + k))]) (st' := []) (I1 := I) 3 rfl ?_
            refine WP.br (fun h14 => ?_) (fun h14 => ?_)
            · have h14 : nvk T s.1 k < lo := nI_lt_ (by omega) (by omega) h14
              refine WP.run (pc' := 114) (L' := [.ref 13, .int (nI lo), .int (nI hi), .int (nI k), .int (nI (nvk T s.1 k)), .int (nI (s.1 + k))]) (st' := [.int (nI 0)]) (I1 := (upN I 13 5 (nI 2))) 4 rfl ?_
              exact WP.ret rfl rfl (by
                              rw [show rdNum T lo hi s = (0, (s.1, 2)) by first | (exfalso; omega) | ((unfold rdNum; rw [if_pos hf, hnf]; (repeat first | rw [if_pos (by first | assumption | omega | (refine inA_iff.mpr ?_; omega) | (intro q; have q2 := inA_iff.mp q; omega) | (intro q; omega) | (refine ⟨?_, ?_⟩ <;> rw [nI_int (by omega)] <;> omega) | (rw [nI_int (by omega)]; omega) | (intro q; rw [nI_int (by omega)] at q; omega) | (refine ⟨?_, ?_, ?_⟩ <;> omega) | (intro q; obtain ⟨q1, q2, q3⟩ := q; omega) | fail)] | rw [if_neg (by first | assumption | omega | (refine inA_iff.mpr ?_; omega) | (intro q; have q2 := inA_iff.mp q; omega) | (intro q; omega) | (refine ⟨?_, ?_⟩ <;> rw [nI_int (by omega)] <;> omega) | (rw [nI_int (by omega)]; omega) | (intro q; rw [nI_int (by omega)] at q; omega) | (refine ⟨?_, ?_, ?_⟩ <;> omega) | (intro q; obtain ⟨q1, q2, q3⟩ := q; omega) | fail)])) <;> rfl)]
                              exact ⟨rfl, (RdC.setf hR (by omega) rfl), (Only.up Only.rfl_ (Or.inl ⟨rfl, Or.inr rfl⟩))⟩)
            · have h14 : ¬ nvk T s.1 k < lo := fun q => h14 (nI_lt_r (by omega) q)
              refine WP.run (pc' := if (nI (nvk T s.1 k)) ≤ (nI hi) then 115 else 108) (L' := [.ref 13, .int (nI lo), .int (nI hi), .int (nI k), .int (nI (nvk T s.1 k)), .int (nI (s.1 + k))]) (st' := []) (I1 := I) 3 rfl ?_
              refine WP.br (fun h15 => ?_) (fun h15 => ?_)
              · have h15 : nvk T s.1 k ≤ hi := nI_le_ (by omega) (by omega) h15
                refine WP.run (pc' := 120) (L' := [.ref 13, .int (nI lo), .int (nI hi), .int (nI k), .int (nI (nvk T s.1 k)), .int (nI (s.1 + k))]) (st' := [.int (I 13 4), .ref 13]) (I1 := I) 3 rfl ?_
                refine WP.cg (st' := [.int (nI s.1), .ref 13]) rfl (congrArg (fun z : Int32 => (.int z :: [.ref 13] : List Value)) ((RdC.p hR))) rfl ?_
                refine WP.run (pc' := 122) (L' := [.ref 13, .int (nI lo), .int (nI hi), .int (nI k), .int (nI (nvk T s.1 k)), .int (nI (s.1 + k))]) (st' := [.int ((nI s.1) + (nI k)), .ref 13]) (I1 := I) 2 rfl ?_
                refine WP.cg (st' := [.int (nI (s.1 + k)), .ref 13]) rfl (congrArg (fun z : Int32 => (.int z :: [.ref 13] : List Value)) (nI_add s.1 k)) rfl ?_
                refine WP.run (pc' := 127) (L' := [.ref 13, .int (nI lo), .int (nI hi), .int (nI k), .int (nI (nvk T s.1 k)), .int (nI (s.1 + k))]) (st' := [.int (nI (nvk T s.1 k))]) (I1 := (upN I 13 4 (nI (s.1 + k)))) 2 rfl ?_
                exact WP.ret rfl rfl (by
                                  rw [show rdNum T lo hi s = (nvk T s.1 k, (s.1 + k, 0)) by first | (exfalso; omega) | ((unfold rdNum; rw [if_pos hf, hnf]; (repeat first | rw [if_pos (by first | assumption | omega | (refine inA_iff.mpr ?_; omega) | (intro q; have q2 := inA_iff.mp q; omega) | (intro q; omega) | (refine ⟨?_, ?_⟩ <;> rw [nI_int (by omega)] <;> omega) | (rw [nI_int (by omega)]; omega) | (intro q; rw [nI_int (by omega)] at q; omega) | (refine ⟨?_, ?_, ?_⟩ <;> omega) | (intro q; obtain ⟨q1, q2, q3⟩ := q; omega) | fail)] | rw [if_neg (by first | assumption | omega | (refine inA_iff.mpr ?_; omega) | (intro q; have q2 := inA_iff.mp q; omega) | (intro q; omega) | (refine ⟨?_, ?_⟩ <;> rw [nI_int (by omega)] <;> omega) | (rw [nI_int (by omega)]; omega) | (intro q; rw [nI_int (by omega)] at q; omega) | (refine ⟨?_, ?_, ?_⟩ <;> omega) | (intro q; obtain ⟨q1, q2, q3⟩ := q; omega) | fail)])) <;> rfl)]
                                  exact ⟨rfl, (RdC.setp hR (by omega) hf), (Only.up Only.rfl_ (Or.inl ⟨rfl, Or.inl rfl⟩))⟩)
              · have h15 : ¬ nvk T s.1 k ≤ hi := fun q => h15 (nI_le_r (by omega) q)
                refine WP.run (pc' := 114) (L' := [.ref 13, .int (nI lo), .int (nI hi), .int (nI k), .int (nI (nvk T s.1 k)), .int (nI (s.1 + k))]) (st' := [.int (nI 0)]) (I1 := (upN I 13 5 (nI 2))) 4 rfl ?_
                exact WP.ret rfl rfl (by
                                  rw [show rdNum T lo hi s = (0, (s.1, 2)) by first | (exfalso; omega) | ((unfold rdNum; rw [if_pos hf, hnf]; (repeat first | rw [if_pos (by first | assumption | omega | (refine inA_iff.mpr ?_; omega) | (intro q; have q2 := inA_iff.mp q; omega) | (intro q; omega) | (refine ⟨?_, ?_⟩ <;> rw [nI_int (by omega)] <;> omega) | (rw [nI_int (by omega)]; omega) | (intro q; rw [nI_int (by omega)] at q; omega) | (refine ⟨?_, ?_, ?_⟩ <;> omega) | (intro q; obtain ⟨q1, q2, q3⟩ := q; omega) | fail)] | rw [if_neg (by first | assumption | omega | (refine inA_iff.mpr ?_; omega) | (intro q; have q2 := inA_iff.mp q; omega) | (intro q; omega) | (refine ⟨?_, ?_⟩ <;> rw [nI_int (by omega)] <;> omega) | (rw [nI_int (by omega)]; omega) | (intro q; rw [nI_int (by omega)] at q; omega) | (refine ⟨?_, ?_, ?_⟩ <;> omega) | (intro q; obtain ⟨q1, q2, q3⟩ := q; omega) | fail)])) <;> rfl)]
                                  exact ⟨rfl, (RdC.setf hR (by omega) rfl), (Only.up Only.rfl_ (Or.inl ⟨rfl, Or.inr rfl⟩))⟩)
          · have h13 : ¬ k ≤ 2 := fun q => h13 (nI_le_r (by omega) q)
            refine WP.run (pc' := 95) (L' := [.ref 13, .int (nI lo), .int (nI hi), .int (nI k), .int (nI (nvk T s.1 k)), .int (nI (s.1 + k))]) (st' := [.int (nI 0)]) (I1 := (upN I 13 5 (nI 1))) 4 rfl ?_
            exact WP.ret rfl rfl (by
                          rw [show rdNum T lo hi s = (0, (s.1, 1)) by first | (exfalso; omega) | ((unfold rdNum; rw [if_pos hf, hnf]; (repeat first | rw [if_pos (by first | assumption | omega | (refine inA_iff.mpr ?_; omega) | (intro q; have q2 := inA_iff.mp q; omega) | (intro q; omega) | (refine ⟨?_, ?_⟩ <;> rw [nI_int (by omega)] <;> omega) | (rw [nI_int (by omega)]; omega) | (intro q; rw [nI_int (by omega)] at q; omega) | (refine ⟨?_, ?_, ?_⟩ <;> omega) | (intro q; obtain ⟨q1, q2, q3⟩ := q; omega) | fail)] | rw [if_neg (by first | assumption | omega | (refine inA_iff.mpr ?_; omega) | (intro q; have q2 := inA_iff.mp q; omega) | (intro q; omega) | (refine ⟨?_, ?_⟩ <;> rw [nI_int (by omega)] <;> omega) | (rw [nI_int (by omega)]; omega) | (intro q; rw [nI_int (by omega)] at q; omega) | (refine ⟨?_, ?_, ?_⟩ <;> omega) | (intro q; obtain ⟨q1, q2, q3⟩ := q; omega) | fail)])) <;> rfl)]
                          exact ⟨rfl, (RdC.setf hR (by omega) rfl), (Only.up Only.rfl_ (Or.inl ⟨rfl, Or.inr rfl⟩))⟩)
set_option maxRecDepth 100000 in
theorem sp_rnum {d : Nat} {I : Pl} {T : TpS} {s : Nat × Nat} {M : Nat → Nat} (hR : RdC I T s M) {lo hi : Nat} {x y : Int32} (hx : s.2 = 0 → x = nI lo ∧ y = nI hi) (hlo : lo < 1000) (hhi : hi < 1000) : EvX (d + 2) 48 [.ref 13, .int x, .int y] I (fun v K => v = some (.int (nI (rdNum T lo hi s).1)) ∧ RdC K T (rdNum T lo hi s).2 M ∧ Only I K rdP) := by
  have h120 := hR.ln
  have hlp := hR.lp
  have hlf := hR.lf
  refine EvX.enter rfl rfl rfl ?_
  refine WP.run (pc' := 4) (L' := [.ref 13, .int x, .int y, UU, UU, UU]) (st' := [.int (I 13 5)]) (I1 := I) 2 rfl ?_
  refine WP.cg (st' := [.int (nI s.2)]) rfl (congrArg (fun z : Int32 => (.int z :: [] : List Value)) ((RdC.f hR))) rfl ?_
  refine WP.run (pc' := if (nI s.2) = 0 then 9 else 7) (L' := [.ref 13, .int x, .int y, UU, UU, UU]) (st' := []) (I1 := I) 1 rfl ?_
  refine WP.br (fun h1 => ?_) (fun h1 => ?_)
  · have h1 : s.2 = 0 := nI_eq_ (by omega) (by omega) h1
    obtain ⟨rfl, rfl⟩ := hx (by assumption)
    refine WP.run (pc' := 18) (L' := [.ref 13, .int (nI lo), .int (nI hi), .int (nI 0), .int (nI 0), UU]) (st' := [.int (I 13 4)]) (I1 := I) 6 rfl ?_
    refine WP.cg (st' := [.int (nI s.1)]) rfl (congrArg (fun z : Int32 => (.int z :: [] : List Value)) ((RdC.p hR))) rfl ?_
    refine WP.run (pc' := 20) (L' := [.ref 13, .int (nI lo), .int (nI hi), .int (nI 0), .int (nI 0), .int (nI s.1)]) (st' := []) (I1 := I) 1 rfl ?_
    refine WP.cg (L' := [.ref 13, .int (nI lo), .int (nI hi), .int (nI 0), .int (nI (nvk T s.1 0)), .int (nI (s.1 + 0))]) rfl rfl rfl ?_
    exact lc_num hR (by assumption) hlo hhi 0 (Nat.zero_le _) (fun j hj => absurd hj (Nat.not_lt_zero _))
  · have h1 : ¬ s.2 = 0 := fun q => h1 (nI_eq_r q)
    refine WP.run (pc' := 8) (L' := [.ref 13, .int x, .int y, UU, UU, UU]) (st' := [.int (nI 0)]) (I1 := I) 1 rfl ?_
    exact WP.ret rfl rfl (by
          rw [rdNum_f (by assumption)]
          exact ⟨rfl, hR, Only.rfl_⟩)
theorem lsw_all : ∀ b : Nat, b < 256 → tg 1 (Op.lookupswitch.offset [(103, 55), (104, 51), (114, 57), (115, 53), (119, 59)] 61 (b : Int)) = some (if srt b = 0 then 62 else 50 + 2 * srt b) := by decide +kernel
theorem WP.lsw {d : Nat} {fc : FC} {pc pc' : Nat} {L st : List Value} {I : Pl} {Q : Option Value → Pl → Prop} {x : Int32} {df : Int} {ps : Array (Int × Int)} {ln : Nat} (hq : asc (cdT fc.1) pc = some (.lookupswitch df ps, ln)) (ht : tg pc (Op.lookupswitch.offset ps.toList df x.toInt) = some pc') (g : WP d fc pc' L st I Q) : WP d fc pc L (.int x :: st) I Q := by
  obtain ⟨r, I', g, hQ⟩ := g
  refine ⟨r, I', At.stp1 hq ?_ g, hQ⟩
  dsimp only [stp]
  unfold jm
  rw [ht]
set_option maxRecDepth 100000 in
theorem sp_sortOf {d : Nat} {I : Pl} {T : TpS} {p : Nat} (hlb : ∀ i, i < T.1 → T.2 i < 256) : Ev (d + 1) 50 [.int (hV T p)] (mem I) (some (.int (nI (srP T p)))) (mem I) := by
  refine Ev.only (EvX.enter rfl rfl rfl ?_)
  by_cases hp : p < T.1
  · rw [show hV T p = nI (T.2 p) from if_pos hp]
    have hb := hlb p hp
    refine WP.run (pc' := 1) (L' := [.int (nI (T.2 p))]) (st' := [.int (nI (T.2 p))]) (I1 := I) 1 rfl ?_
    have hs := lsw_all (T.2 p) hb
    have h5 := srt_le (T.2 p)
    have hc : srt (T.2 p) = 0 ∨ srt (T.2 p) = 1 ∨ srt (T.2 p) = 2 ∨ srt (T.2 p) = 3 ∨ srt (T.2 p) = 4 ∨ srt (T.2 p) = 5 := by omega
    rcases hc with hz | hz | hz | hz | hz | hz
    · rw [hz] at hs
      refine WP.lsw (pc' := 62) rfl (by rw [nI_int (by omega)]; exact hs) ?_
      refine WP.run (pc' := 63) (L' := [.int (nI (T.2 p))]) (st' := [.int (nI 0)]) (I1 := I) 1 rfl ?_
      exact WP.ret rfl rfl ⟨by rw [show srP T p = srt (T.2 p) from if_pos hp, hz], rfl⟩
    · rw [hz] at hs
      refine WP.lsw (pc' := 52) rfl (by rw [nI_int (by omega)]; exact hs) ?_
      refine WP.run (pc' := 53) (L' := [.int (nI (T.2 p))]) (st' := [.int (nI 1)]) (I1 := I) 1 rfl ?_
      exact WP.ret rfl rfl ⟨by rw [show srP T p = srt (T.2 p) from if_pos hp, hz], rfl⟩
    · rw [hz] at hs
      refine WP.lsw (pc' := 54) rfl (by rw [nI_int (by omega)]; exact hs) ?_
      refine WP.run (pc' := 55) (L' := [.int (nI (T.2 p))]) (st' := [.int (nI 2)]) (I1 := I) 1 rfl ?_
      exact WP.ret rfl rfl ⟨by rw [show srP T p = srt (T.2 p) from if_pos hp, hz], rfl⟩
    · rw [hz] at hs
      refine WP.lsw (pc' := 56) rfl (by rw [nI_int (by omega)]; exact hs) ?_
      refine WP.run (pc' := 57) (L' := [.int (nI (T.2 p))]) (st' := [.int (nI 3)]) (I1 := I) 1 rfl ?_
      exact WP.ret rfl rfl ⟨by rw [show srP T p = srt (T.2 p) from if_pos hp, hz], rfl⟩
    · rw [hz] at hs
      refine WP.lsw (pc' := 58) rfl (by rw [nI_int (by omega)]; exact hs) ?_
      refine WP.run (pc' := 59) (L' := [.int (nI (T.2 p))]) (st' := [.int (nI 4)]) (I1 := I) 1 rfl ?_
      exact WP.ret rfl rfl ⟨by rw [show srP T p = srt (T.2 p) from if_pos hp, hz], rfl⟩
    · rw [hz] at hs
      refine WP.lsw (pc' := 60) rfl (by rw [nI_int (by omega)]; exact hs) ?_
      refine WP.run (pc' := 61) (L' := [.int (nI (T.2 p))]) (st' := [.int (nI 5)]) (I1 := I) 1 rfl ?_
      exact WP.ret rfl rfl ⟨by rw [show srP T p = srt (T.2 p) from if_pos hp, hz], rfl⟩
  · rw [show hV T p = -1 from if_neg hp]
    refine WP.run (pc' := 62) (L' := [.int (-1)]) (st' := []) (I1 := I) 2 rfl ?_
    refine WP.run (pc' := 63) (L' := [.int (-1)]) (st' := [.int (nI 0)]) (I1 := I) 1 rfl ?_
    exact WP.ret rfl rfl ⟨by rw [show srP T p = 0 from if_neg hp], rfl⟩
set_option maxRecDepth 100000 in
theorem sp_rlaw {d : Nat} {I : Pl} {T : TpS} {s : Nat × Nat} {M : Nat → Nat} (hR : RdC I T s M) : EvX (d + 3) 49 [.ref 13] I (fun v K => v = none ∧ RdC K T (pLaw T M s).1 (pLaw T M s).2 ∧ Only I K rdP) := by
  have h120 := hR.ln
  have hlp := hR.lp
  have hlf := hR.lf
  refine EvX.enter rfl rfl rfl ?_
  refine WP.run (pc' := 3) (L' := [.ref 13]) (st' := [.int (nI 116), .ref 13]) (I1 := I) 2 rfl ?_
  refine WP.callX (rest := []) rfl rfl (sp_rsign (d := d) (c := 116) hR (by decide)) (fun v J1 hv => ?_)
  obtain ⟨rfl, hR1, hO1⟩ := hv
  refine WP.run (pc' := 14) (L' := [.ref 13]) (st' := [.int (nI 99), .int (nI 1), .ref 13, .ref 23]) (I1 := J1) 5 rfl ?_
  refine WP.callX (rest := [.ref 23]) rfl rfl (sp_rnum (d := d) (lo := 1) (hi := 99) (x := (nI 1)) (y := (nI 99)) hR1 (fun _ => ⟨rfl, rfl⟩) (by decide) (by omega)) (fun v J2 hv => ?_)
  obtain ⟨rfl, hR2, hO2⟩ := hv
  refine WP.run (pc' := 23) (L' := [.ref 13]) (st' := [.int (nI 44), .ref 13]) (I1 := (upN J2 23 1 (nI ((rdNum T 1 99 (rdSign T 116 s)).1)))) 3 rfl ?_
  refine WP.callX (rest := []) rfl rfl (sp_rsign (d := d) (c := 44) (RdC.fd1 hR2) (by decide)) (fun v J3 hv => ?_)
  obtain ⟨rfl, hR3, hO3⟩ := hv
  refine WP.run (pc' := 34) (L' := [.ref 13]) (st' := [.int (nI 99), .int (nI 1), .ref 13, .ref 23]) (I1 := J3) 5 rfl ?_
  refine WP.callX (rest := [.ref 23]) rfl rfl (sp_rnum (d := d) (lo := 1) (hi := 99) (x := (nI 1)) (y := (nI 99)) hR3 (fun _ => ⟨rfl, rfl⟩) (by decide) (by omega)) (fun v J4 hv => ?_)
  obtain ⟨rfl, hR4, hO4⟩ := hv
  refine WP.run (pc' := 43) (L' := [.ref 13]) (st' := [.int (nI 59), .ref 13]) (I1 := (upN J4 23 2 (nI ((rdNum T 1 99 (rdSign T 44 (rdNum T 1 99 (rdSign T 116 s)).2)).1)))) 3 rfl ?_
  refine WP.callX (rest := []) rfl rfl (sp_rsign (d := d) (c := 59) (RdC.fd2 hR4) (by decide)) (fun v J5 hv => ?_)
  obtain ⟨rfl, hR5, hO5⟩ := hv
  exact WP.ret rfl rfl (by
      skip
      exact ⟨rfl, hR5, ((Only.up (((Only.up ((Only.rfl_.tr hO1).tr hO2) (Or.inr ⟨by decide, by decide⟩)).tr hO3).tr hO4) (Or.inr ⟨by decide, by decide⟩)).tr hO5)⟩)
set_option maxRecDepth 100000 in
theorem sp_rstr {d : Nat} {I : Pl} {T : TpS} {s : Nat × Nat} {M : Nat → Nat} (hR : RdC I T s M) (hf : s.2 = 0) (hM : M 2 ≤ 6) (hp : s.1 < T.1) : EvX (d + 3) 51 [.ref 13] I (fun v K => v = none ∧ RdC K T (pStr T M s.1).1 (pStr T M s.1).2 ∧ Only I K rdP) := by
  have h120 := hR.ln
  have hlp := hR.lp
  have hlf := hR.lf
  have hsp := srP_le (T := T) (p := s.1)
  refine EvX.enter rfl rfl rfl ?_
  refine WP.run (pc' := 7) (L' := [.ref 13, UU]) (st' := [.int (I 23 7)]) (I1 := I) 3 rfl ?_
  refine WP.cg (st' := [.int (nI (M 2))]) rfl (congrArg (fun z : Int32 => (.int z :: [] : List Value)) ((RdC.t hR).f7)) rfl ?_
  refine WP.run (pc' := if (nI (M 2)) < (nI 6) then 20 else 14) (L' := [.ref 13, .int (nI (M 2))]) (st' := []) (I1 := I) 4 rfl ?_
  refine WP.br (fun h1 => ?_) (fun h1 => ?_)
  · have h1 : M 2 < 6 := nI_lt_ (by omega) (by omega) h1
    refine WP.run (pc' := 29) (L' := [.ref 13, .int (nI (M 2))]) (st' := [.ref 13, .int (nI (M 2)), .ref 24]) (I1 := I) 5 rfl ?_
    refine WP.callV (rest := [.int (nI (M 2)), .ref 24]) rfl rfl (sp_here (d := d + 1) hR) ?_
    refine WP.callV (rest := [.int (nI (M 2)), .ref 24]) rfl rfl (sp_sortOf (d := d + 1) (T := T) (p := s.1) (fun i hi => RdC.lb hR hi)) ?_
    refine WP.iast rfl rfl rfl (by omega) (by decide) ?_
    refine WP.run (pc' := 41) (L' := [.ref 13, .int (nI (M 2))]) (st' := [.int (I 13 4), .ref 13]) (I1 := (upN I 24 (M 2) (nI (srP T s.1)))) 3 rfl ?_
    refine WP.cg (st' := [.int (nI s.1), .ref 13]) rfl (congrArg (fun z : Int32 => (.int z :: [.ref 13] : List Value)) ((RdC.p hR))) rfl ?_
    refine WP.run (pc' := 43) (L' := [.ref 13, .int (nI (M 2))]) (st' := [.int ((nI s.1) + (nI 1)), .ref 13]) (I1 := (upN I 24 (M 2) (nI (srP T s.1)))) 2 rfl ?_
    refine WP.cg (st' := [.int (nI (s.1 + 1)), .ref 13]) rfl (congrArg (fun z : Int32 => (.int z :: [.ref 13] : List Value)) (nI_add s.1 1)) rfl ?_
    refine WP.run (pc' := 58) (L' := [.ref 13, .int (nI (M 2))]) (st' := [.int (nI 99), .int (nI 1), .ref 13, .int (nI (M 2)), .ref 25]) (I1 := (upN (upN I 24 (M 2) (nI (srP T s.1))) 13 4 (nI (s.1 + 1)))) 8 rfl ?_
    refine WP.callX (rest := [.int (nI (M 2)), .ref 25]) rfl rfl (sp_rnum (d := d) (lo := 1) (hi := 99) (x := (nI 1)) (y := (nI 99)) (RdC.setp (RdC.ar1 (k := M 2) hR (by omega)) (by omega) hf) (fun _ => ⟨rfl, rfl⟩) (by decide) (by omega)) (fun v J1 hv => ?_)
    obtain ⟨rfl, hR1, hO1⟩ := hv
    refine WP.iast rfl rfl rfl (by omega) (by decide) ?_
    refine WP.run (pc' := 65) (L' := [.ref 13, .int (nI (M 2))]) (st' := [.int (nI 59), .ref 13]) (I1 := (upN J1 25 (M 2) (nI ((rdNum T 1 99 (s.1 + 1, 0)).1)))) 2 rfl ?_
    refine WP.callX (rest := []) rfl rfl (sp_rsign (d := d) (c := 59) (RdC.ar2 (k := M 2) hR1 (by omega)) (by decide)) (fun v J2 hv => ?_)
    obtain ⟨rfl, hR2, hO2⟩ := hv
    refine WP.run (pc' := 76) (L' := [.ref 13, .int (nI (M 2))]) (st' := [.int (J2 23 7), .ref 23]) (I1 := J2) 4 rfl ?_
    refine WP.cg (st' := [.int (nI (M 2)), .ref 23]) rfl (congrArg (fun z : Int32 => (.int z :: [.ref 23] : List Value)) ((RdC.t hR2).f7.trans (congrArg nI (by rw [setN_o (by omega), setN_o (by omega)])))) rfl ?_
    refine WP.run (pc' := 78) (L' := [.ref 13, .int (nI (M 2))]) (st' := [.int ((nI (M 2)) + (nI 1)), .ref 23]) (I1 := J2) 2 rfl ?_
    refine WP.cg (st' := [.int (nI ((M 2) + 1)), .ref 23]) rfl (congrArg (fun z : Int32 => (.int z :: [.ref 23] : List Value)) (nI_add (M 2) 1)) rfl ?_
    refine WP.run (pc' := 81) (L' := [.ref 13, .int (nI (M 2))]) (st' := []) (I1 := (upN J2 23 7 (nI ((M 2) + 1)))) 1 rfl ?_
    exact WP.ret rfl rfl (by
          rw [show pStr T M s.1 = ((rdSign T 59 (rdNum T 1 99 (s.1 + 1, 0)).2), (setN (setN (setN M (9 + (M 2)) (srP T s.1)) (15 + (M 2)) ((rdNum T 1 99 (s.1 + 1, 0)).1)) 2 ((M 2) + 1))) from if_pos (by omega)]
          exact ⟨rfl, (RdC.fd7 hR2), (Only.up ((Only.up ((Only.up (Only.up Only.rfl_ (Or.inr ⟨by decide, by decide⟩)) (Or.inl ⟨rfl, Or.inl rfl⟩)).tr hO1) (Or.inr ⟨by decide, by decide⟩)).tr hO2) (Or.inr ⟨by decide, by decide⟩))⟩)
  · have h1 : ¬ M 2 < 6 := fun q => h1 (nI_lt_r (by omega) q)
    refine WP.run (pc' := 19) (L' := [.ref 13, .int (nI (M 2))]) (st' := []) (I1 := (upN I 13 5 (nI 3))) 3 rfl ?_
    exact WP.ret rfl rfl (by
          rw [show pStr T M s.1 = ((s.1, 3), M) from if_neg (by omega)]
          exact ⟨rfl, (RdC.setf hR (by omega) rfl), (Only.up Only.rfl_ (Or.inl ⟨rfl, Or.inr rfl⟩))⟩)
set_option maxRecDepth 100000 in
theorem sp_rcl {d : Nat} {I : Pl} {T : TpS} {s : Nat × Nat} {M : Nat → Nat} (hR : RdC I T s M) (hf : s.2 = 0) (hM : M 3 ≤ 5) (hp : s.1 < T.1) : EvX (d + 3) 52 [.ref 13] I (fun v K => v = none ∧ RdC K T (pCl T M s.1).1 (pCl T M s.1).2 ∧ Only I K rdP) := by
  have h120 := hR.ln
  have hlp := hR.lp
  have hlf := hR.lf
  refine EvX.enter rfl rfl rfl ?_
  refine WP.run (pc' := 7) (L' := [.ref 13, UU]) (st' := [.int (I 23 8)]) (I1 := I) 3 rfl ?_
  refine WP.cg (st' := [.int (nI (M 3))]) rfl (congrArg (fun z : Int32 => (.int z :: [] : List Value)) ((RdC.t hR).f8)) rfl ?_
  refine WP.run (pc' := if (nI (M 3)) < (nI 5) then 19 else 13) (L' := [.ref 13, .int (nI (M 3))]) (st' := []) (I1 := I) 4 rfl ?_
  refine WP.br (fun h1 => ?_) (fun h1 => ?_)
  · have h1 : M 3 < 5 := nI_lt_ (by omega) (by omega) h1
    have hA0 := rdNum_le (T := T) (lo := 1) (hi := 99) (s := (s.1 + 1, 0)) (by show s.1 + 1 ≤ T.1; omega) (by show 0 ≤ 3; omega)
    have hA1 := rdSign_le (T := T) (c := 44) hA0.1 hA0.2.1
    have hB1 := rdNum_le (T := T) (lo := 1) (hi := 9) hA1.1 hA1.2
    have hB2 := hB1.2.2.1
    refine WP.run (pc' := 24) (L' := [.ref 13, .int (nI (M 3))]) (st' := [.int (I 13 4), .ref 13]) (I1 := I) 3 rfl ?_
    refine WP.cg (st' := [.int (nI s.1), .ref 13]) rfl (congrArg (fun z : Int32 => (.int z :: [.ref 13] : List Value)) ((RdC.p hR))) rfl ?_
    refine WP.run (pc' := 26) (L' := [.ref 13, .int (nI (M 3))]) (st' := [.int ((nI s.1) + (nI 1)), .ref 13]) (I1 := I) 2 rfl ?_
    refine WP.cg (st' := [.int (nI (s.1 + 1)), .ref 13]) rfl (congrArg (fun z : Int32 => (.int z :: [.ref 13] : List Value)) (nI_add s.1 1)) rfl ?_
    refine WP.run (pc' := 41) (L' := [.ref 13, .int (nI (M 3))]) (st' := [.int (nI 99), .int (nI 1), .ref 13, .int (nI (M 3)), .ref 27]) (I1 := (upN I 13 4 (nI (s.1 + 1)))) 8 rfl ?_
    refine WP.callX (rest := [.int (nI (M 3)), .ref 27]) rfl rfl (sp_rnum (d := d) (lo := 1) (hi := 99) (x := (nI 1)) (y := (nI 99)) (RdC.setp hR (by omega) hf) (fun _ => ⟨rfl, rfl⟩) (by decide) (by omega)) (fun v J1 hv => ?_)
    obtain ⟨rfl, hR1, hO1⟩ := hv
    refine WP.iast rfl rfl rfl (by omega) (by decide) ?_
    refine WP.run (pc' := 48) (L' := [.ref 13, .int (nI (M 3))]) (st' := [.int (nI 44), .ref 13]) (I1 := (upN J1 27 (M 3) (nI ((rdNum T 1 99 (s.1 + 1, 0)).1)))) 2 rfl ?_
    refine WP.callX (rest := []) rfl rfl (sp_rsign (d := d) (c := 44) (RdC.ar4 (k := M 3) hR1 (by omega)) (by decide)) (fun v J2 hv => ?_)
    obtain ⟨rfl, hR2, hO2⟩ := hv
    refine WP.run (pc' := 63) (L' := [.ref 13, .int (nI (M 3))]) (st' := [.int (nI 9), .int (nI 1), .ref 13, .int (nI (M 3)), .ref 28]) (I1 := J2) 7 rfl ?_
    refine WP.callX (rest := [.int (nI (M 3)), .ref 28]) rfl rfl (sp_rnum (d := d) (lo := 1) (hi := 9) (x := (nI 1)) (y := (nI 9)) hR2 (fun _ => ⟨rfl, rfl⟩) (by decide) (by omega)) (fun v J3 hv => ?_)
    obtain ⟨rfl, hR3, hO3⟩ := hv
    refine WP.iast rfl rfl rfl (by omega) (by decide) ?_
    refine WP.run (pc' := 70) (L' := [.ref 13, .int (nI (M 3))]) (st' := [.int (nI 44), .ref 13]) (I1 := (upN J3 28 (M 3) (nI ((rdNum T 1 9 (rdSign T 44 (rdNum T 1 99 (s.1 + 1, 0)).2)).1)))) 2 rfl ?_
    refine WP.callX (rest := []) rfl rfl (sp_rsign (d := d) (c := 44) (RdC.ar5 (k := M 3) hR3 (by omega)) (by decide)) (fun v J4 hv => ?_)
    obtain ⟨rfl, hR4, hO4⟩ := hv
    refine WP.run (pc' := 91) (L' := [.ref 13, .int (nI (M 3))]) (st' := [.int (nI (M 3)), .ref 28, .int (nI 0), .ref 13, .int (nI (M 3)), .ref 29]) (I1 := J4) 10 rfl ?_
    refine WP.iald rfl rfl rfl (by omega) (by decide) ?_
    refine WP.cg (st' := [.int (nI ((rdNum T 1 9 (rdSign T 44 (rdNum T 1 99 (s.1 + 1, 0)).2)).1)), .int (nI 0), .ref 13, .int (nI (M 3)), .ref 29]) rfl (congrArg (fun z : Int32 => (.int z :: [.int (nI 0), .ref 13, .int (nI (M 3)), .ref 29] : List Value)) (((RdC.t hR4).a5 (k := M 3) (by omega)).trans (congrArg nI (by rw [setN_s])))) rfl ?_
    refine WP.run (pc' := 94) (L' := [.ref 13, .int (nI (M 3))]) (st' := [.int ((nI ((rdNum T 1 9 (rdSign T 44 (rdNum T 1 99 (s.1 + 1, 0)).2)).1)) - (nI 1)), .int (nI 0), .ref 13, .int (nI (M 3)), .ref 29]) (I1 := J4) 2 rfl ?_
    refine WP.callX (rest := [.int (nI (M 3)), .ref 29]) rfl rfl (sp_rnum (d := d) (lo := 0) (hi := (rdNum T 1 9 (rdSign T 44 (rdNum T 1 99 (s.1 + 1, 0)).2)).1 - 1) (x := (nI 0)) (y := ((nI ((rdNum T 1 9 (rdSign T 44 (rdNum T 1 99 (s.1 + 1, 0)).2)).1)) - (nI 1))) hR4 (fun q => ⟨rfl, pk_sub (hB1.2.2.2 (by
      rcases Nat.eq_zero_or_pos (rdNum T 1 9 (rdSign T 44 (rdNum T 1 99 (s.1 + 1, 0)).2)).2.2 with z | z
      · exact z
      · rw [rdSign_f (by omega)] at q
        exact q))⟩) (by decide) (by omega)) (fun v J5 hv => ?_)
    obtain ⟨rfl, hR5, hO5⟩ := hv
    refine WP.iast rfl rfl rfl (by omega) (by decide) ?_
    refine WP.run (pc' := 101) (L' := [.ref 13, .int (nI (M 3))]) (st' := [.int (nI 59), .ref 13]) (I1 := (upN J5 29 (M 3) (nI ((rdNum T 0 ((rdNum T 1 9 (rdSign T 44 (rdNum T 1 99 (s.1 + 1, 0)).2)).1 - 1) (rdSign T 44 (rdNum T 1 9 (rdSign T 44 (rdNum T 1 99 (s.1 + 1, 0)).2)).2)).1)))) 2 rfl ?_
    refine WP.callX (rest := []) rfl rfl (sp_rsign (d := d) (c := 59) (RdC.ar6 (k := M 3) hR5 (by omega)) (by decide)) (fun v J6 hv => ?_)
    obtain ⟨rfl, hR6, hO6⟩ := hv
    refine WP.run (pc' := 112) (L' := [.ref 13, .int (nI (M 3))]) (st' := [.int (J6 23 8), .ref 23]) (I1 := J6) 4 rfl ?_
    refine WP.cg (st' := [.int (nI (M 3)), .ref 23]) rfl (congrArg (fun z : Int32 => (.int z :: [.ref 23] : List Value)) ((RdC.t hR6).f8.trans (congrArg nI (by rw [setN_o (by omega), setN_o (by omega), setN_o (by omega)])))) rfl ?_
    refine WP.run (pc' := 114) (L' := [.ref 13, .int (nI (M 3))]) (st' := [.int ((nI (M 3)) + (nI 1)), .ref 23]) (I1 := J6) 2 rfl ?_
    refine WP.cg (st' := [.int (nI ((M 3) + 1)), .ref 23]) rfl (congrArg (fun z : Int32 => (.int z :: [.ref 23] : List Value)) (nI_add (M 3) 1)) rfl ?_
    refine WP.run (pc' := 117) (L' := [.ref 13, .int (nI (M 3))]) (st' := []) (I1 := (upN J6 23 8 (nI ((M 3) + 1)))) 1 rfl ?_
    exact WP.ret rfl rfl (by
          rw [show pCl T M s.1 = ((rdSign T 59 (rdNum T 0 ((rdNum T 1 9 (rdSign T 44 (rdNum T 1 99 (s.1 + 1, 0)).2)).1 - 1) (rdSign T 44 (rdNum T 1 9 (rdSign T 44 (rdNum T 1 99 (s.1 + 1, 0)).2)).2)).2), (setN (setN (setN (setN M (27 + (M 3)) ((rdNum T 1 99 (s.1 + 1, 0)).1)) (32 + (M 3)) ((rdNum T 1 9 (rdSign T 44 (rdNum T 1 99 (s.1 + 1, 0)).2)).1)) (37 + (M 3)) ((rdNum T 0 ((rdNum T 1 9 (rdSign T 44 (rdNum T 1 99 (s.1 + 1, 0)).2)).1 - 1) (rdSign T 44 (rdNum T 1 9 (rdSign T 44 (rdNum T 1 99 (s.1 + 1, 0)).2)).2)).1)) 3 ((M 3) + 1))) from if_pos (by omega)]
          exact ⟨rfl, (RdC.fd8 hR6), (Only.up ((Only.up (((Only.up (((Only.up ((Only.up Only.rfl_ (Or.inl ⟨rfl, Or.inl rfl⟩)).tr hO1) (Or.inr ⟨by decide, by decide⟩)).tr hO2).tr hO3) (Or.inr ⟨by decide, by decide⟩)).tr hO4).tr hO5) (Or.inr ⟨by decide, by decide⟩)).tr hO6) (Or.inr ⟨by decide, by decide⟩))⟩)
  · have h1 : ¬ M 3 < 5 := fun q => h1 (nI_lt_r (by omega) q)
    refine WP.run (pc' := 18) (L' := [.ref 13, .int (nI (M 3))]) (st' := []) (I1 := (upN I 13 5 (nI 3))) 3 rfl ?_
    exact WP.ret rfl rfl (by
          rw [show pCl T M s.1 = ((s.1, 3), M) from if_neg (by omega)]
          exact ⟨rfl, (RdC.setf hR (by omega) rfl), (Only.up Only.rfl_ (Or.inl ⟨rfl, Or.inr rfl⟩))⟩)
