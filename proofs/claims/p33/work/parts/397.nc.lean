/-! classes are numbered in the order of their first heaps -/
def ncP (E : Int → Int → Prop) (i K : Int) (co fo nu : Int → Int) : Prop := (0 ≤ K ∧ K ≤ i) ∧ (∀ j, 0 ≤ j → j < i → (0 ≤ co j ∧ co j < K) ∧ fo (co j) ≤ j ∧ E (fo (co j)) j) ∧ (∀ c, 0 ≤ c → c < K → (0 ≤ fo c ∧ fo c < i) ∧ co (fo c) = c) ∧ (∀ c e, 0 ≤ c → c < e → e < K → fo c < fo e) ∧ (∀ c e, 0 ≤ c → c < e → e < K → ¬ E (fo c) (fo e)) ∧ (∀ c, 0 ≤ c → c < K → nu c = sm (fun j => bi (co j = c)) i.toNat)
section
variable {E E' : Int → Int → Prop} {co fo nu co' fo' nu' : Int → Int} {i K v : Int}
theorem nc_nil : ncP E 0 0 co fo nu := ⟨by omega, fun j j0 j1 => by omega, fun c c0 c1 => by omega, fun c e c0 ce e1 => by omega, fun c e c0 ce e1 => by omega, fun c c0 c1 => by omega⟩
theorem nc_old (h : ncP E i K co fo nu) (i0 : 0 ≤ i) (v0 : 0 ≤ v ∧ v < K) (e : E (fo v) i) (hco : ∀ j, j ≠ i → co' j = co j) (hci : co' i = v) (hfo : ∀ c, fo' c = fo c) (hnu : ∀ c, c ≠ v → nu' c = nu c) (hnv : nu' v = nu v + 1) : ncP E (i + 1) K co' fo' nu' := by
  obtain ⟨h1, h2, h3, h4, h5, h6⟩ := h
  refine ⟨by omega, fun j j0 j1 => ?_, fun c c0 c1 => ?_, fun c e' c0 ce e1 => by rw [hfo, hfo]; exact h4 c e' c0 ce e1, fun c e' c0 ce e1 => by rw [hfo, hfo]; exact h5 c e' c0 ce e1, fun c c0 c1 => ?_⟩
  · by_cases y : j = i
    · rw [y, hci, hfo]
      have := h3 v v0.1 v0.2
      exact ⟨v0, by omega, e⟩
    · rw [hco j y, hfo]; exact h2 j j0 (by omega)
  · have q := h3 c c0 c1
    rw [hfo, hco _ (by omega)]
    exact ⟨by omega, q.2⟩
  · have st := sm_s (fun j => bi (co' j = c)) i0
    have pre : sm (fun j => bi (co' j = c)) i.toNat = sm (fun j => bi (co j = c)) i.toNat := sm_congr (fun j j0 j1 => by rw [hco j (by omega)])
    rw [st, pre, ← h6 c c0 c1]
    (try dsimp only)
    rw [hci]
    by_cases y : c = v
    · rw [y, hnv, bi_t rfl]
    · rw [hnu c y, bi_f (fun q => y q.symm)]; omega
theorem nc_new (h : ncP E i K co fo nu) (i0 : 0 ≤ i) (re : E i i) (ne : ∀ c, 0 ≤ c → c < K → ¬ E (fo c) i) (hco : ∀ j, j ≠ i → co' j = co j) (hci : co' i = K) (hfo : ∀ c, c ≠ K → fo' c = fo c) (hfK : fo' K = i) (hnu : ∀ c, c ≠ K → nu' c = nu c) (hnK : nu' K = 1) : ncP E (i + 1) (K + 1) co' fo' nu' := by
  obtain ⟨h1, h2, h3, h4, h5, h6⟩ := h
  refine ⟨by omega, fun j j0 j1 => ?_, fun c c0 c1 => ?_, fun c e' c0 ce e1 => ?_, fun c e' c0 ce e1 => ?_, fun c c0 c1 => ?_⟩
  · by_cases y : j = i
    · rw [y, hci, hfK]; exact ⟨by omega, by omega, re⟩
    · have q := h2 j j0 (by omega)
      rw [hco j y, hfo _ (by omega)]
      exact ⟨by omega, q.2⟩
  · by_cases y : c = K
    · rw [y, hfK, hci]; exact ⟨by omega, rfl⟩
    · have q := h3 c c0 (by omega)
      rw [hfo c y, hco _ (by omega)]
      exact ⟨by omega, q.2⟩
  · rw [hfo c (by omega)]
    by_cases y : e' = K
    · rw [y, hfK]; exact (h3 c c0 (by omega)).1.2
    · rw [hfo e' y]; exact h4 c e' c0 ce (by omega)
  · rw [hfo c (by omega)]
    by_cases y : e' = K
    · rw [y, hfK]; exact ne c c0 (by omega)
    · rw [hfo e' y]; exact h5 c e' c0 ce (by omega)
  · have st := sm_s (fun j => bi (co' j = c)) i0
    have pre : sm (fun j => bi (co' j = c)) i.toNat = sm (fun j => bi (co j = c)) i.toNat := sm_congr (fun j j0 j1 => by rw [hco j (by omega)])
    rw [st, pre]
    (try dsimp only)
    rw [hci]
    by_cases y : c = K
    · have z : sm (fun j => bi (co j = c)) i.toNat = 0 := sm_zz (fun j j0 j1 => bi_f (by have := h2 j j0 (by omega); omega))
      rw [z, y, hnK, bi_t rfl]
      rfl
    · rw [hnu c y, ← h6 c c0 (by omega), bi_f (fun q => y q.symm)]; omega
theorem nc_E (h : ncP E i K co fo nu) (e : ∀ a b, 0 ≤ a → a < i → 0 ≤ b → b < i → (E a b ↔ E' a b)) : ncP E' i K co fo nu := by
  obtain ⟨h1, h2, h3, h4, h5, h6⟩ := h
  refine ⟨h1, fun j j0 j1 => ?_, h3, h4, fun c e' c0 ce e1 q => ?_, h6⟩
  · have q := h2 j j0 j1
    have f := (h3 _ q.1.1 q.1.2).1
    exact ⟨q.1, q.2.1, (e _ _ f.1 f.2 j0 j1).mp q.2.2⟩
  · have f := (h3 c c0 (by omega)).1
    have f' := (h3 e' (by omega) e1).1
    exact h5 c e' c0 ce e1 ((e _ _ f.1 f.2 f'.1 f'.2).mpr q)
end
section
variable {N H C C' : Int} {mul : Int → Int → Int} {inv : Int → Int} {S S' : Int → Int → Int} {co fo nu co' fo' nu' : Int → Int}
theorem nc_cl (gt : GT N mul inv) (sS : ∀ k, 0 ≤ k → k < H → SM N mul (S k)) (h1 : 1 ≤ H) (h : ncP (fun a b => CJ N mul inv (S a) (S b)) H C co fo nu) : clX N H C mul inv S co fo nu := by
  obtain ⟨a1, a2, a3, a4, a5, a6⟩ := h
  have c0 := (a2 0 (by omega) (by omega)).1
  refine ⟨by omega, a2, a3, a4, fun c e' c0 c1 e0 e1 q => ?_, a6⟩
  have f1 := a3 c c0 c1
  have f2 := a3 e' e0 e1
  rcases Int.lt_trichotomy c e' with y | y | y
  · exact absurd q (a5 c e' c0 y e1)
  · exact y
  · exact absurd (CJ_symm gt (sS _ f1.1.1 f1.1.2) (sS _ f2.1.1 f2.1.2) q) (a5 e' c e0 y c1)
theorem cl_is (gt : GT N mul inv) (sS : ∀ k, 0 ≤ k → k < H → SM N mul (S k)) (al : ∀ T, SM N mul T → ∃ k, 0 ≤ k ∧ k < H ∧ req N (S k) T) (h : clX N H C mul inv S co fo nu) : isCls N mul inv C := by
  obtain ⟨a1, a2, a3, a4, a5, a6⟩ := h
  refine ⟨fun i => S (fo i), fun i i0 i1 => sS _ (a3 i i0 i1).1.1 (a3 i i0 i1).1.2, fun i j i0 i1 j0 j1 e => a5 i j i0 i1 j0 j1 e, fun T hT => ?_⟩
  obtain ⟨k, k0, k1, k2⟩ := al T hT
  have b := a2 k k0 k1
  obtain ⟨g, g0, g1, e⟩ := b.2.2
  exact ⟨co k, b.1.1, b.1.2, g, g0, g1, rqt (rqs k2) e⟩
/-- an entry is a first heap just if none before is led to it -/
theorem cl_in (gt : GT N mul inv) (sS : ∀ k, 0 ≤ k → k < H → SM N mul (S k)) (h : clX N H C mul inv S co fo nu) {k : Int} (k0 : 0 ≤ k ∧ k < H) : (∃ c, 0 ≤ c ∧ c < C ∧ fo c = k) ↔ ∀ j, 0 ≤ j → j < k → ¬ CJ N mul inv (S j) (S k) := by
  obtain ⟨a1, a2, a3, a4, a5, a6⟩ := h
  constructor
  · rintro ⟨c, c0, c1, e⟩ j j0 j1 q
    have b := a2 j j0 (by omega)
    have f := a3 _ b.1.1 b.1.2
    have := a5 (co j) c b.1.1 b.1.2 c0 c1 (by rw [e]; exact CJ_trans gt (sS j j0 (by omega)) b.2.2 q)
    rw [this, e] at b
    omega
  · intro no
    have b := a2 k k0.1 k0.2
    refine ⟨co k, b.1.1, b.1.2, ?_⟩
    apply Classical.byContradiction
    intro ne
    exact no (fo (co k)) (a3 _ b.1.1 b.1.2).1.1 (by omega) b.2.2
theorem up_eq {f g : Int → Int} {n n' : Int} (hf : ∀ i j, 0 ≤ i → i < j → j < n → f i < f j) (hg : ∀ i j, 0 ≤ i → i < j → j < n' → g i < g j) (h1 : ∀ i, 0 ≤ i → i < n → ∃ j, 0 ≤ j ∧ j < n' ∧ g j = f i) (h2 : ∀ j, 0 ≤ j → j < n' → ∃ i, 0 ≤ i ∧ i < n ∧ f i = g j) : ∀ m : Nat, ((m : Int) < n → (m : Int) < n' ∧ f m = g m) ∧ ((m : Int) < n' → (m : Int) < n ∧ f m = g m) := by
  intro m
  induction m using Nat.strongRecOn with
  | ind m ih =>
    have key1 : (m : Int) < n → ∃ j, (m : Int) ≤ j ∧ j < n' ∧ g j = f m := fun q => by
      obtain ⟨j, j0, j1, j2⟩ := h1 m (by omega) q
      refine ⟨j, ?_, j1, j2⟩
      apply Classical.byContradiction
      intro z
      have e := ((ih j.toNat (by omega)).2 (by omega)).2
      rw [Int.toNat_of_nonneg j0] at e
      have := hf j m j0 (by omega) q
      omega
    have key2 : (m : Int) < n' → ∃ j, (m : Int) ≤ j ∧ j < n ∧ f j = g m := fun q => by
      obtain ⟨j, j0, j1, j2⟩ := h2 m (by omega) q
      refine ⟨j, ?_, j1, j2⟩
      apply Classical.byContradiction
      intro z
      have e := ((ih j.toNat (by omega)).1 (by omega)).2
      rw [Int.toNat_of_nonneg j0] at e
      have := hg j m j0 (by omega) q
      omega
    have both : (m : Int) < n → (m : Int) < n' → f m = g m := fun a b => by
      obtain ⟨j, j0, j1, j2⟩ := key1 a
      obtain ⟨i, i0, i1, i2⟩ := key2 b
      have x : g m ≤ g j := by
        by_cases e : (m : Int) = j
        · rw [e]; omega
        · have := hg m j (by omega) (by omega) j1; omega
      have y : f m ≤ f i := by
        by_cases e : (m : Int) = i
        · rw [e]; omega
        · have := hf m i (by omega) (by omega) i1; omega
      omega
    refine ⟨fun q => ?_, fun q => ?_⟩
    · obtain ⟨j, j0, j1, j2⟩ := key1 q
      exact ⟨by omega, both q (by omega)⟩
    · obtain ⟨j, j0, j1, j2⟩ := key2 q
      exact ⟨by omega, both (by omega) q⟩
theorem cl_uni (gt : GT N mul inv) (sS : ∀ k, 0 ≤ k → k < H → SM N mul (S k)) (h : clX N H C mul inv S co fo nu) (h' : clX N H C' mul inv S co' fo' nu') : C = C' ∧ (∀ k, 0 ≤ k → k < H → co k = co' k) ∧ (∀ c, 0 ≤ c → c < C → fo c = fo' c) ∧ ∀ c, 0 ≤ c → c < C → nu c = nu' c := by
  have i1 := fun k (k0 : 0 ≤ k ∧ k < H) => cl_in gt sS h k0
  have i2 := fun k (k0 : 0 ≤ k ∧ k < H) => cl_in gt sS h' k0
  obtain ⟨a1, a2, a3, a4, a5, a6⟩ := h
  obtain ⟨b1, b2, b3, b4, b5, b6⟩ := h'
  have eq := up_eq (f := fo) (g := fo') (n := C) (n' := C') a4 b4 (fun i p0 p1 => (i2 _ (a3 i p0 p1).1).mpr ((i1 _ (a3 i p0 p1).1).mp ⟨i, p0, p1, rfl⟩)) (fun j p0 p1 => (i1 _ (b3 j p0 p1).1).mpr ((i2 _ (b3 j p0 p1).1).mp ⟨j, p0, p1, rfl⟩))
  have CC : C = C' := by
    have a := (eq C.toNat).2
    have b := (eq C'.toNat).1
    rw [Int.toNat_of_nonneg (by omega)] at a b
    apply Classical.byContradiction
    intro q
    by_cases l : C < C'
    · have := (a l).1; omega
    · have := (b (by omega)).1; omega
  have fe : ∀ c, 0 ≤ c → c < C → fo c = fo' c := fun c c0 c1 => by
    have := ((eq c.toNat).1 (by omega)).2
    rw [Int.toNat_of_nonneg c0] at this
    exact this
  have ce : ∀ k, 0 ≤ k → k < H → co k = co' k := fun k k0 k1 => by
    have p := a2 k k0 k1
    have q := b2 k k0 k1
    have fq := b3 _ q.1.1 q.1.2
    refine a5 _ _ p.1.1 p.1.2 q.1.1 (by omega) ?_
    rw [fe (co' k) q.1.1 (by omega)]
    exact CJ_trans gt (sS k k0 k1) p.2.2 (CJ_symm gt (sS _ fq.1.1 fq.1.2) (sS k k0 k1) q.2.2)
  refine ⟨CC, ce, fe, fun c c0 c1 => ?_⟩
  rw [a6 c c0 c1, b6 c c0 (by omega)]
  exact sm_congr (fun j j0 j1 => by rw [ce j j0 (by omega)])
theorem CJ_rq (gt : GT N mul inv) {A A' B B' : Int → Int} (sA : ∀ t, 0 ≤ t → t < N → A t = 0 ∨ A t = 1) (ea : req N A A') (eb : req N B B') (h : CJ N mul inv A B) : CJ N mul inv A' B' := by
  obtain ⟨x, x0, x1, e⟩ := h
  exact ⟨x, x0, x1, rqt (rqs eb) (rqt e (cj_congr gt sA ea x))⟩
theorem cl_c (gt : GT N mul inv) (sS : ∀ k, 0 ≤ k → k < H → SM N mul (S k)) (e : ∀ k, 0 ≤ k → k < H → req N (S k) (S' k)) (h : clX N H C mul inv S co fo nu) : clX N H C mul inv S' co fo nu := by
  obtain ⟨a1, a2, a3, a4, a5, a6⟩ := h
  have b01 : ∀ k, 0 ≤ k → k < H → ∀ t, 0 ≤ t → t < N → S' k t = 0 ∨ S' k t = 1 := fun k k0 k1 t t0 t1 => by rw [← e k k0 k1 t t0 t1]; exact (sS k k0 k1).1 t t0 t1
  refine ⟨a1, fun h h0 h1 => ?_, a3, a4, fun c e' c0 c1 e0 e1 q => ?_, a6⟩
  · have q := a2 h h0 h1
    have f := a3 _ q.1.1 q.1.2
    exact ⟨q.1, q.2.1, CJ_rq gt (sS _ f.1.1 f.1.2).1 (e _ f.1.1 f.1.2) (e h h0 h1) q.2.2⟩
  · have f1 := (a3 c c0 c1).1
    have f2 := (a3 e' e0 e1).1
    exact a5 c e' c0 c1 e0 e1 (CJ_rq gt (b01 _ f1.1 f1.2) (rqs (e _ f1.1 f1.2)) (rqs (e _ f2.1 f2.2)) q)
theorem tbx_c (gt : GT N mul inv) (sS : ∀ k, 0 ≤ k → k < H → SM N mul (S k)) (e : ∀ k, 0 ≤ k → k < H → req N (S k) (S' k)) {c d : Int} (c0 : 0 ≤ fo c ∧ fo c < H) (d0 : 0 ≤ fo d ∧ fo d < H) (hc : fo' c = fo c) (hd : fo' d = fo d) : tbx N mul inv S fo c d = tbx N mul inv S' fo' c d := by
  unfold tbx
  rw [hc, hd, rqm (e _ c0.1 c0.2)]
  rw [sm_congr (g := fun g => bi (sub1 N (cj N mul inv (S' (fo d)) g) (S' (fo c)))) (fun g _ _ => bi_c (sub_iff (cj_congr gt (sS _ d0.1 d0.2).1 (e _ d0.1 d0.2) g) (e _ c0.1 c0.2)))]
theorem cl_E {mul' : Int → Int → Int} {inv' : Int → Int} (gt : GT N mul inv) (gt' : GT N mul' inv') (e : ∀ s t, 0 ≤ s → s < N → 0 ≤ t → t < N → mul s t = mul' s t) (cE : ∀ A B, CJ N mul inv A B ↔ CJ N mul' inv' A B) (h : clX N H C mul inv S co fo nu) : clX N H C mul' inv' S co fo nu := by
  obtain ⟨a1, a2, a3, a4, a5, a6⟩ := h
  exact ⟨a1, fun h h0 h1 => ⟨(a2 h h0 h1).1, (a2 h h0 h1).2.1, (cE _ _).mp (a2 h h0 h1).2.2⟩, a3, a4, fun c e' c0 c1 e0 e1 q => a5 c e' c0 c1 e0 e1 ((cE _ _).mpr q), a6⟩
end
