/-! the reference's group answers so -/
def msf (V : gV) (M : Nat) (n : Int) : Int → Int → Int := fun s p => if p < n then shp V M s p else p
def rc (f : Int → Int) (n j : Int) : Int := cd (fun p => if p < n then f (8 * j + p) else p)
section
variable {V V0 Vc : gV} {M : Nat} {n v : Int}
theorem msf_t {s p : Int} (h : p < n) : msf V M n s p = shp V M s p := if_pos h
theorem msf_f {s p : Int} (h : ¬ p < n) : msf V M n s p = p := if_neg h
theorem pOK_pK {s : Int} : pOK V M n s ↔ pK (msf V M n s) n := by
  constructor
  · intro h
    refine ⟨fun q q0 q1 => by rw [msf_t q1]; exact h.1 q q0 q1, fun p q p0 p1 q0 q1 e => ?_⟩
    rw [msf_t p1, msf_t q1] at e
    exact h.2 p q p0 p1 q0 q1 e
  · intro h
    refine ⟨fun q q0 q1 => ?_, fun p q p0 p1 q0 q1 e => h.2 p q p0 p1 q0 q1 (by rw [msf_t p1, msf_t q1]; exact e)⟩
    have := h.1 q q0 q1
    rw [msf_t q1] at this
    exact this
theorem sOK_m : (∀ s, 0 ≤ s → s < 4 → pOK V M n s) ↔ sOK (msf V M n) n := ⟨fun h s s0 s1 => pOK_pK.mp (h s s0 s1), fun h s s0 s1 => pOK_pK.mpr (h s s0 s1)⟩
theorem rc_dg {f : Int → Int} {j p : Int} (hn : 1 ≤ n ∧ n ≤ 8) (hr : ∀ p, 0 ≤ p → p < n → 0 ≤ f (8 * j + p) ∧ f (8 * j + p) < n) (hp : 0 ≤ p ∧ p ≤ 7) : dg (rc f n j) p = if p < n then f (8 * j + p) else p := by
  refine dg_cd (r := fun p => if p < n then f (8 * j + p) else p) (fun q q0 q1 => ?_) hp
  (try dsimp only)
  split
  · rename_i y
    have := hr q q0 y
    omega
  · omega
theorem rc_step {f : Int → Int} {j k s : Int} (hn : 1 ≤ n ∧ n ≤ 8) (hs : sfR (msf V0 M n)) (s0 : 0 ≤ s ∧ s < 4) (hk : ∀ p, 0 ≤ p → p < n → 0 ≤ f (8 * k + p) ∧ f (8 * k + p) < n) (e : ∀ p, 0 ≤ p → p < n → f (8 * j + p) = shp V0 M s (f (8 * k + p))) : rc f n j = cmp (rc f n k) (cd (msf V0 M n s)) := by
  unfold cmp
  refine cd_e (fun p p0 p1 => ?_)
  rw [rc_dg hn hk ⟨p0, p1⟩]
  by_cases y : p < n
  · have r := hk p p0 y
    rw [if_pos y, if_pos y, dg_cd (r := msf V0 M n s) (fun q q0 q1 => hs s q s0.1 s0.2 q0 q1) (by omega), msf_t r.2]
    exact e p p0 y
  · rw [if_neg y, if_neg y, dg_cd (r := msf V0 M n s) (fun q q0 q1 => hs s q s0.1 s0.2 q0 q1) ⟨p0, p1⟩, msf_f y]
theorem msf_R (hn : 1 ≤ n ∧ n ≤ 8) (ok : sOK (msf V0 M n) n) : sfR (msf V0 M n) := sf_r hn ok (fun s p _ _ h _ => msf_f (by omega))
theorem gJ_W (hn : 1 ≤ n ∧ n ≤ 8) (hs : sfR (msf V0 M n)) (j0 : gJ V0 V M n) : ∀ (w : Nat) (j : Int), 0 ≤ j → j < V M 10 → j.toNat = w → isW (msf V0 M n) (rc (fun i => V (M + 7) i) n j) := by
  obtain ⟨_, h1, h2, h3, h4, h5, h6⟩ := j0
  intro w
  induction w using Nat.strongRecOn with
  | ind w ih =>
    intro j q0 q1 jw
    by_cases z : j = 0
    · have e : rc (fun i => V (M + 7) i) n j = 342391 := by
        rw [← cd_id]
        unfold rc
        refine cd_e (fun p p0 p1 => ?_)
        (try dsimp only)
        split
        · rename_i y
          rw [z, show 8 * (0 : Int) + p = p by omega]; exact h4 p p0 y
        · rfl
      rw [e]; exact W_base
    · obtain ⟨k, s, k0, k1, s0, s1, r⟩ := h6 j (by omega) q1
      rw [rc_step (f := fun i => V (M + 7) i) hn hs ⟨s0, s1⟩ (fun p p0 p1 => h3 k p k0 (by omega) p0 p1) r]
      exact W_step hs (ih k.toNat (by omega) k k0 (by omega) rfl) ⟨s0, s1⟩
theorem gJ_all (hn : 1 ≤ n ∧ n ≤ 8) (hs : sfR (msf V0 M n)) (j0 : gJ V0 V M n) (c : gC V0 V M n (V M 10) 0) : ∀ w : List Int, (∀ s, s ∈ w → 0 ≤ s ∧ s < 4) → ∃ j, 0 ≤ j ∧ j < V M 10 ∧ rc (fun i => V (M + 7) i) n j = cd (ev (msf V0 M n) w) := by
  obtain ⟨_, h1, h2, h3, h4, h5, h6⟩ := j0
  intro w
  induction w with
  | nil =>
    intro _
    refine ⟨0, by omega, by omega, ?_⟩
    unfold rc
    refine cd_e (fun p p0 p1 => ?_)
    show (if p < n then V (M + 7) (8 * 0 + p) else p) = p
    split
    · rename_i y
      rw [show 8 * (0 : Int) + p = p by omega]; exact h4 p p0 y
    · rfl
  | cons s w ih =>
    intro hw
    have a := hw s (List.mem_cons_self ..)
    have hw' : ∀ s', s' ∈ w → 0 ≤ s' ∧ s' < 4 := fun s' h => hw s' (List.mem_cons_of_mem _ h)
    obtain ⟨k, k0, k1, k2⟩ := ih hw'
    obtain ⟨j, l0, l1, l2⟩ := c k s k0 a.1 a.2 (Or.inl k1)
    refine ⟨j, l0, l1, ?_⟩
    rw [rc_step (f := fun i => V (M + 7) i) hn hs a (fun p p0 p1 => h3 k p k0 k1 p0 p1) l2, k2, ev_cmp hs hw' a]
theorem gmX_ans (h : gmX V M n v) : gAns (msf V M n) n v := by
  rcases h with ⟨a, b⟩ | ⟨hn, V5, w, gx, h⟩
  · exact Or.inl ⟨a, b⟩
  refine Or.inr ⟨hn, ?_⟩
  rcases gx with ⟨w6, no⟩ | ⟨w5, ok, gj, n120, ⟨k, s, k0, k1, s0, s1, row⟩, nw⟩ | ⟨w0, ok, gj, gc⟩
  · rcases h with ⟨_, e⟩ | ⟨e, _⟩
    · exact Or.inl ⟨by omega, fun z => no (sOK_m.mpr z)⟩
    · omega
  · rcases h with ⟨_, e⟩ | ⟨e, _⟩
    · have ok' := sOK_m.mp ok
      have hs := msf_R hn ok'
      refine Or.inr ⟨ok', Or.inl ⟨by omega, ?_⟩⟩
      have gjw := gJ_W hn hs gj
      obtain ⟨_, h1, h2, h3, h4, h5, h6⟩ := gj
      have rg : ∀ j, 0 ≤ j → j ≤ 120 → ∀ p, 0 ≤ p → p < n → 0 ≤ V5 (M + 7) (8 * j + p) ∧ V5 (M + 7) (8 * j + p) < n := by
        intro j j0 j1 p p0 p1
        by_cases y : j < 120
        · exact h3 j p j0 (by omega) p0 p1
        · have e : j = 120 := by omega
          have r := h3 k p k0 (by omega) p0 p1
          rw [e, row p p0 p1]
          exact (ok s s0 s1).1 _ r.1 r.2
      have inj : ∀ i j, 0 ≤ i → i ≤ 120 → 0 ≤ j → j ≤ 120 → rc (fun i => V5 (M + 7) i) n i = rc (fun i => V5 (M + 7) i) n j → rowEq V5 M n i j := by
        intro i j i0 i1 j0 j1 e p p0 p1
        have a := rc_dg (f := fun i => V5 (M + 7) i) (j := i) hn (rg i i0 i1) (p := p) ⟨p0, by omega⟩
        have b := rc_dg (f := fun i => V5 (M + 7) i) (j := j) hn (rg j j0 j1) (p := p) ⟨p0, by omega⟩
        rw [if_pos p1] at a b
        rw [e, b] at a
        exact a.symm
      refine ⟨fun i => rc (fun i => V5 (M + 7) i) n i, fun i i0 i1 => ?_, fun i j i0 ij j1 e2 => ?_⟩
      · dsimp only
        by_cases y : i < 120
        · exact gjw _ i i0 (by omega) rfl
        · rw [show i = 120 by omega, rc_step (f := fun i => V5 (M + 7) i) hn hs ⟨s0, s1⟩ (rg k k0 (by omega)) row]
          exact W_step hs (gjw _ k k0 (by omega) rfl) ⟨s0, s1⟩
      · have e3 := inj i j i0 (by omega) (by omega) j1 e2
        by_cases y : j < 120
        · exact h5 i j i0 ij (by omega) e3
        · rw [show j = 120 by omega] at e3
          exact nw i i0 (by omega) e3
    · omega
  · rcases h with ⟨e, _⟩ | ⟨_, Vc, im, pr, ans⟩
    · omega
    have ok' := sOK_m.mp ok
    have hs := msf_R hn ok'
    have gjw := gJ_W hn hs gj
    have gja := gJ_all hn hs gj gc
    have g0 := gJ_GR hn ok gj gc
    have N1 : 1 ≤ V5 M 10 ∧ V5 M 10 ≤ 120 := ⟨gj.2.1, gj.2.2.1⟩
    obtain ⟨e4, e5, gr, sr, rows, pad⟩ := im
    have rr : ∀ k, 0 ≤ k → k < V5 M 10 → ∀ p, 0 ≤ p → p ≤ 7 → 0 ≤ Vc (M + 4) (8 * k + p) ∧ Vc (M + 4) (8 * k + p) ≤ 7 := by
      intro k k0 k1 p p0 p1
      by_cases y : p < n
      · have := gr.2.2.2.2.1 k p k0 k1 p0 y
        dsimp only at this
        omega
      · rw [pad k p k0 k1 (by omega) (by omega)]; omega
    have ce : ∀ k, 0 ≤ k → k < V5 M 10 → cd (fun p => Vc (M + 4) (8 * plc (fun i => V5 (M + 7) i) n (V5 M 10) k + p)) = rc (fun i => V5 (M + 7) i) n k := by
      intro k k0 k1
      have r := plc_r (f := fun i => V5 (M + 7) i) (n := n) k0 k1
      unfold rc
      refine cd_e (fun p p0 p1 => ?_)
      by_cases y : p < n
      · rw [if_pos y, rows k p k0 k1 p0 y]
      · rw [if_neg y, pad _ p r.1 r.2 (by omega) (by omega)]
    refine Or.inr ⟨ok', Or.inr ⟨fun k => cd (fun p => Vc (M + 4) (8 * k + p)), V5 M 10, mMul Vc M, N1, fun i j i0 ij j1 => ?_, fun c => ⟨?_, ?_⟩, fun s t s0 s1 t0 t1 => ?_, ans⟩⟩
    · obtain ⟨p, p0, p1, p2, p3⟩ := sr i j i0 ij j1
      exact cd_lt (rr i i0 (by omega)) (rr j (by omega) j1) (p := p) ⟨p0, by omega⟩ (fun q q0 q1 => p3 q q0 q1) p2
    · rintro ⟨k, k0, k1, k2⟩
      obtain ⟨k', l0, l1, l2⟩ := plc_sur g0 k0 k1
      dsimp only at k2
      rw [← k2, ← l2, ce k' l0 l1]
      exact gjw _ k' l0 l1 rfl
    · rintro ⟨w, hw, e⟩
      obtain ⟨k, k0, k1, k2⟩ := gja w hw
      have r := plc_r (f := fun i => V5 (M + 7) i) (n := n) k0 k1
      exact ⟨_, r.1, r.2, by dsimp only; rw [ce k k0 k1, k2, e]⟩
    · have q := pr s t s0 s1 t0 t1
      refine ⟨q.1, q.2.1, ?_⟩
      unfold cmp
      refine cd_e (fun p p0 p1 => ?_)
      have rs := rr s s0 s1 p p0 p1
      rw [dg_cd (r := fun p => Vc (M + 4) (8 * s + p)) (rr s s0 s1) ⟨p0, p1⟩, dg_cd (r := fun p => Vc (M + 4) (8 * t + p)) (rr t t0 t1) rs]
      by_cases y : p < n
      · exact q.2.2 p p0 y
      · have e1 := pad _ p q.1 q.2.1 (by omega) (by omega)
        have e2 := pad s p s0 s1 (by omega) (by omega)
        have e3 := pad t p t0 t1 (by omega) (by omega)
        (try dsimp only)
        rw [e2, e3]; exact e1
/-! the reference's rows as data -/
theorem rc8 {f : Int → Int} {N k p : Int} (g : GR f n N) (k0 : 0 ≤ k ∧ k < N) (p0 : 0 ≤ p) (p1 : p ≤ 7) : 0 ≤ (if p < n then f (8 * k + p) else p) ∧ (if p < n then f (8 * k + p) else p) ≤ 7 := by
  have n8 := g.2.1
  split
  · rename_i y
    have := g.2.2.2.2.1 k p k0.1 k0.2 p0 y
    omega
  · omega
theorem rc_c0 {f : Int → Int} {N k : Int} (g : GR f n N) (k0 : 0 ≤ k ∧ k < N) : 0 ≤ rc f n k ∧ rc f n k < 16777216 := cd_r (fun p p0 p1 => rc8 g k0 p0 p1)
theorem rc_ris {f : Int → Int} {N : Int} (g : GR f n N) (s : srt f n N) : ris (rc f n) N := by
  intro i j i0 ij j1
  obtain ⟨p, p0, p1, p2, p3⟩ := s i j i0 ij j1
  have n8 := g.2.1
  refine cd_lt (r := fun p => if p < n then f (8 * i + p) else p) (s := fun p => if p < n then f (8 * j + p) else p) (fun q q0 q1 => rc8 g ⟨i0, by omega⟩ q0 q1) (fun q q0 q1 => rc8 g ⟨by omega, j1⟩ q0 q1) (p := p) ⟨p0, by omega⟩ (fun q q0 q1 => ?_) ?_
  · (try dsimp only)
    rw [if_pos (by omega), if_pos (by omega)]
    exact p3 q q0 q1
  · (try dsimp only)
    rw [if_pos p1, if_pos p1]
    exact p2
theorem rc_M {f : Int → Int} {N : Int} {mul : Int → Int → Int} (g : GR f n N) (m : isPr f n N mul) : isM (rc f n) N mul := by
  intro s t s0 s1 t0 t1
  have hn : 1 ≤ n ∧ n ≤ 8 := ⟨g.1, g.2.1⟩
  obtain ⟨a, b, c⟩ := m s t s0 s1 t0 t1
  refine ⟨a, b, ?_⟩
  have rs := fun p (p0 : 0 ≤ p) (p1 : p < n) => g.2.2.2.2.1 s p s0 s1 p0 p1
  have rt := fun p (p0 : 0 ≤ p) (p1 : p < n) => g.2.2.2.2.1 t p t0 t1 p0 p1
  unfold cmp
  refine cd_e (fun p p0 p1 => ?_)
  rw [rc_dg hn rs ⟨p0, p1⟩]
  by_cases y : p < n
  · have r := rs p p0 y
    rw [if_pos y, if_pos y, rc_dg hn rt (by omega), if_pos r.2]
    exact c p p0 y
  · rw [if_neg y, if_neg y, rc_dg hn rt ⟨p0, p1⟩, if_neg y]
theorem rc_e {f f' : Int → Int} {k : Int} (e : ∀ p, 0 ≤ p → p < n → f' (8 * k + p) = f (8 * k + p)) : rc f' n k = rc f n k := by
  unfold rc
  refine cd_e (fun p p0 p1 => ?_)
  by_cases y : p < n
  · rw [if_pos y, if_pos y]; exact e p p0 y
  · rw [if_neg y, if_neg y]
def rD (V : gV) (M : Nat) : gD := fun a b => if a = 0 then (if b = 0 then V M 4 else V M 5) else if a = 1 then rc (fun i => V (M + 4) i) (V M 4) b else V (M + 5) (120 * (a - 2) + b)
theorem rD_00 : rD V M 0 0 = V M 4 := by unfold rD; rw [if_pos rfl, if_pos rfl]
theorem rD_01 : rD V M 0 1 = V M 5 := by unfold rD; rw [if_pos rfl, if_neg (by omega)]
theorem rD_1 : rD V M 1 = rc (fun i => V (M + 4) i) (V M 4) := by funext b; unfold rD; rw [if_neg (by omega), if_pos rfl]
theorem rD_m {s t : Int} (s0 : 0 ≤ s) : rD V M (2 + s) t = V (M + 5) (120 * s + t) := by unfold rD; rw [if_neg (by omega), if_neg (by omega), show 2 + s - 2 = s by omega]
theorem MI_M (h : MI V M) : isM (rc (fun i => V (M + 4) i) (V M 4)) (V M 5) (mMul V M) := rc_M h.2.1.1.1 (fun s t s0 s1 t0 t1 => h.2.1.1.2.2.1 s t s0 s1 t0 t1)
theorem gr_OK {V' V5 : gV} (hn : 1 ≤ n ∧ n ≤ 8) (h4 : V' M 4 = n) (gx : gaX V V5 M n 0) (h5 : V5 M 10 = V' M 5) (rows : ∀ k p, 0 ≤ k → k < V5 M 10 → 0 ≤ p → p < n → V' (M + 4) (8 * plc (fun i => V5 (M + 7) i) n (V5 M 10) k + p) = V5 (M + 7) (8 * k + p)) (mi : MI V' M) : gOK (msf V M n) n (rD V' M) := by
  rcases gx with ⟨w, _⟩ | ⟨w, _⟩ | ⟨_, ok, gj, gc⟩
  · omega
  · omega
  have ok' := sOK_m.mp ok
  have hs := msf_R hn ok'
  have gjw := gJ_W hn hs gj
  have gja := gJ_all hn hs gj gc
  have g0 := gJ_GR hn ok gj gc
  have N1 : 1 ≤ V5 M 10 ∧ V5 M 10 ≤ 120 := ⟨gj.2.1, gj.2.2.1⟩
  have ce : ∀ k, 0 ≤ k → k < V5 M 10 → rc (fun i => V' (M + 4) i) n (plc (fun i => V5 (M + 7) i) n (V5 M 10) k) = rc (fun i => V5 (M + 7) i) n k := by
    intro k k0 k1
    unfold rc
    refine cd_e (fun p p0 p1 => ?_)
    by_cases y : p < n
    · rw [if_pos y, if_pos y]; exact rows k p k0 k1 p0 y
    · rw [if_neg y, if_neg y]
  have gi := mi.2.1.1
  have gg := gi.1
  have gs := gi.2.1
  have gm := MI_M mi
  rw [h4] at gg gs gm
  refine ⟨by rw [rD_01, ← h5]; exact N1, by rw [rD_1, rD_01, h4]; exact rc_ris gg gs, fun c => ?_, ?_, by rw [rD_00]; exact h4⟩
  · rw [rD_1, rD_01, h4, ← h5]
    constructor
    · rintro ⟨k, k0, k1, k2⟩
      obtain ⟨k', l0, l1, l2⟩ := plc_sur g0 k0 k1
      rw [← k2, ← l2, ce k' l0 l1]
      exact gjw _ k' l0 l1 rfl
    · rintro ⟨w, hw, e⟩
      obtain ⟨k, k0, k1, k2⟩ := gja w hw
      have r := plc_r (f := fun i => V5 (M + 7) i) (n := n) k0 k1
      exact ⟨_, r.1, r.2, by rw [ce k k0 k1, k2, e]⟩
  · rw [rD_1, rD_01, h4]
    intro s t s0 s1 t0 t1
    have := gm s t s0 s1 t0 t1
    (try dsimp only)
    rw [rD_m s0]
    exact this
/-- a group's data are the rows f -/
def dEq (d : gD) (pl N : Int) (f : Int → Int) : Prop := d 0 0 = pl ∧ d 0 1 = N ∧ (∀ k, 0 ≤ k → k < N → d 1 k = rc f pl k) ∧ isM (d 1) N (fun s t => d (2 + s) t) ∧ hsX d
theorem dEq_c {d : gD} {pl N : Int} {f f' : Int → Int} (h : dEq d pl N f) (e : ∀ k p, 0 ≤ k → k < N → 0 ≤ p → p < pl → f' (8 * k + p) = f (8 * k + p)) : dEq d pl N f' := ⟨h.1, h.2.1, fun k k0 k1 => by rw [h.2.2.1 k k0 k1, rc_e (fun p p0 p1 => e k p k0 k1 p0 p1)], h.2.2.2⟩
theorem dEq_OK {sf : Int → Int → Int} {d : gD} (h : gOK sf n d) (hx : hsX d) (h' : gOK sf n (rD V M)) : dEq d (V M 4) (V M 5) (fun i => V (M + 4) i) := by
  obtain ⟨a, b, c⟩ := gOK_eq h h'
  rw [rD_00] at a
  rw [rD_01] at b
  refine ⟨a, b, fun k k0 k1 => by rw [c k k0 (by omega), rD_1], ?_⟩
  have := h.2.2.2.1
  rw [b] at this
  exact ⟨this, hx⟩
end
