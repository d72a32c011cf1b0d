/-! all closed sets are met, kind by kind -/
section
variable {N : Int} {mul : Int → Int → Int} {inv : Int → Int}
def tr0 (t : Int) : Int := if t = 0 then 1 else 0
theorem SM_tr (g : GT N mul inv) : SM N mul tr0 := by
  refine ⟨fun t _ _ => ?_, rfl, fun s t s0 s1 t0 t1 hs ht => ?_⟩
  · unfold tr0; split <;> omega
  · have es : s = 0 := by
      by_cases q : s = 0
      · exact q
      · unfold tr0 at hs; rw [if_neg q] at hs; omega
    have et : t = 0 := by
      by_cases q : t = 0
      · exact q
      · unfold tr0 at ht; rw [if_neg q] at ht; omega
    have g1 := g.1
    rw [es, et, (g.2.2.1 0 (by omega) (by omega)).1]; rfl
theorem sub_lt {K T : Int → Int} (hK : SM N mul K) (hT : SM N mul T) (h : sub1 N K T) (n : ¬ req N K T) (g1 : 1 ≤ N) : sm K N.toNat < sm T N.toNat := by
  have le : ∀ i : Int, 0 ≤ i → i < (N.toNat : Nat) → K i ≤ T i := by
    intro i i0 i1
    have k := hK.1 i i0 (by omega)
    have t := hT.1 i i0 (by omega)
    rcases k with k | k
    · omega
    · have := h i i0 (by omega) k
      omega
  obtain ⟨j, q⟩ := Classical.not_forall.mp n
  obtain ⟨j0, q⟩ := Classical.not_imp.mp q
  obtain ⟨j1, q⟩ := Classical.not_imp.mp q
  have := le j j0 (by omega)
  exact sm_lt (j := j) le j0 (by omega) (by omega)
theorem sub_eq {K T : Int → Int} (hK : SM N mul K) (hT : SM N mul T) (h : sub1 N K T) (e : sm K N.toNat = sm T N.toNat) (g1 : 1 ≤ N) : req N K T := by
  by_cases q : req N K T
  · exact q
  · have := sub_lt hK hT h q g1
    omega
theorem req_sm {K T : Int → Int} (h : req N K T) : sm K N.toNat = sm T N.toNat := sm_congr (fun i i0 i1 => h i i0 (by omega))
theorem mx_ex (g : GT N mul inv) {T : Int → Int} (hT : SM N mul T) (hn : ∃ t, 0 ≤ t ∧ t < N ∧ t ≠ 0 ∧ T t = 1) : ∃ K, SM N mul K ∧ sub1 N K T ∧ ¬ req N K T ∧ ∀ K', SM N mul K' → sub1 N K K' → sub1 N K' T → req N K' K ∨ req N K' T := by
  have g1 := g.1
  have main : ∀ (d : Nat) (K : Int → Int), SM N mul K → sub1 N K T → ¬ req N K T → (sm T N.toNat - sm K N.toNat).toNat ≤ d → ∃ K, SM N mul K ∧ sub1 N K T ∧ ¬ req N K T ∧ ∀ K', SM N mul K' → sub1 N K K' → sub1 N K' T → req N K' K ∨ req N K' T := by
    intro d
    induction d with
    | zero =>
      intro K k1 k2 k3 k4
      have := sub_lt k1 hT k2 k3 g1
      omega
    | succ d ih =>
      intro K k1 k2 k3 k4
      by_cases hm : ∀ K', SM N mul K' → sub1 N K K' → sub1 N K' T → req N K' K ∨ req N K' T
      · exact ⟨K, k1, k2, k3, hm⟩
      · obtain ⟨K', q⟩ := Classical.not_forall.mp hm
        obtain ⟨q1, q⟩ := Classical.not_imp.mp q
        obtain ⟨q2, q⟩ := Classical.not_imp.mp q
        obtain ⟨q3, q⟩ := Classical.not_imp.mp q
        have n1 : ¬ req N K K' := fun z => q (Or.inl (fun t t0 t1 => (z t t0 t1).symm))
        have n2 : ¬ req N K' T := fun z => q (Or.inr z)
        have l1 := sub_lt k1 q1 q2 n1 g1
        exact ih K' q1 q3 n2 (by omega)
  obtain ⟨t, t0, t1, t2, t3⟩ := hn
  refine main _ tr0 (SM_tr g) (fun s s0 s1 hs => ?_) (fun z => ?_) (Nat.le_refl _)
  · by_cases q : s = 0
    · rw [q]; exact hT.2.1
    · unfold tr0 at hs; rw [if_neg q] at hs; omega
  · have := z t t0 t1
    unfold tr0 at this
    rw [if_neg t2, t3] at this
    omega
theorem cj_back (g : GT N mul inv) {T : Int → Int} (hT : SM N mul T) {a : Int} (a0 : 0 ≤ a ∧ a < N) : req N (cj N mul inv (cj N mul inv T a) (inv a)) T := by
  have i := g.2.2.2.2 a a0.1 a0.2
  intro t t0 t1
  rw [cj_cj g a0 ⟨i.1, i.2.1⟩ t t0 t1, i.2.2.1]
  exact cj_0 g hT.1 t t0 t1
theorem cj_sub (g : GT N mul inv) {K T : Int → Int} (h : sub1 N K T) (a : Int) : sub1 N (cj N mul inv K a) (cj N mul inv T a) := by
  intro t t0 t1 q
  obtain ⟨u, u0, u1, u2, u3⟩ := (cj_in g).mp q
  exact (cj_in g).mpr ⟨u, u0, u1, h u u0 u1 u2, u3⟩
theorem req_sub {K T : Int → Int} (h : req N K T) : sub1 N K T := fun t t0 t1 q => by rw [← h t t0 t1]; exact q
theorem req_s {K T : Int → Int} (h : req N K T) : req N T K := fun t t0 t1 => (h t t0 t1).symm
theorem req_t {K T U : Int → Int} (h : req N K T) (h2 : req N T U) : req N K U := fun t t0 t1 => (h t t0 t1).trans (h2 t t0 t1)
theorem sub_t {K T U : Int → Int} (h : sub1 N K T) (h2 : sub1 N T U) : sub1 N K U := fun t t0 t1 q => h2 t t0 t1 (h t t0 t1 q)
theorem fd_all (g : GT N mul inv) (hN : N ≤ 120) {H : Int} {S : Int → Int → Int} {hd sd : Int → Prop} (hS : ∀ k, 0 ≤ k → k < H → SM N mul (S k)) (c0 : ∃ k, 0 ≤ k ∧ k < H ∧ req N (S k) tr0) (cc : ∀ k a, 0 ≤ k → k < H → 0 ≤ a → a < N → ∃ j, 0 ≤ j ∧ j < H ∧ req N (S j) (cj N mul inv (S k) a)) (ch : ∀ k, 0 ≤ k → k < H → ∃ h a, 0 ≤ h ∧ h < H ∧ hd h ∧ 0 ≤ a ∧ a < N ∧ req N (S h) (cj N mul inv (S k) a)) (cs : ∀ h t, 0 ≤ h → h < H → hd h → 0 ≤ t → t < N → sd t → fdn N H mul S h t) (se : ∀ x (o : Nat), 0 ≤ x → x < N → isOr mul x o → ppf o = true → ∃ t, 0 ≤ t ∧ t < N ∧ sd t ∧ (∃ i, t = pw mul x i) ∧ ∃ j, x = pw mul t j) : ∀ T, SM N mul T → ∃ k, 0 ≤ k ∧ k < H ∧ req N (S k) T := by
  have g1 := g.1
  have main : ∀ (n : Nat) (T : Int → Int), SM N mul T → (sm T N.toNat).toNat = n → ∃ k, 0 ≤ k ∧ k < H ∧ req N (S k) T := by
    intro n
    induction n using Nat.strongRecOn with
    | ind n ih =>
      intro T hT en
      by_cases hn : ∃ t, 0 ≤ t ∧ t < N ∧ t ≠ 0 ∧ T t = 1
      · obtain ⟨K, k1, k2, k3, k4⟩ := mx_ex g hT hn
        have lt := sub_lt k1 hT k2 k3 g1
        have b := sm_b (f := K) (n := N.toNat) (fun i i0 i1 => by have := k1.1 i i0 (by omega); omega)
        obtain ⟨k, q0, q1, q2⟩ := ih _ (by omega) K k1 rfl
        obtain ⟨h, a, h0, h1, hh, a0, a1, e⟩ := ch k q0 q1
        have T' := cj_SM g hT (g := a) ⟨a0, a1⟩
        have Sh := hS h h0 h1
        have Sk := cj_SM g (hS k q0 q1) (g := a) ⟨a0, a1⟩
        have ia := g.2.2.2.2 a a0 a1
        have s1 : sub1 N (S h) (cj N mul inv T a) := sub_t (req_sub e) (cj_sub g (sub_t (req_sub q2) k2) a)
        have z1 : sm (S h) N.toNat = sm K N.toNat := by rw [req_sm e, Sk.2, req_sm q2]
        have nr : ¬ req N (S h) (cj N mul inv T a) := fun z => by have := req_sm z; omega
        have mx : ∀ K', SM N mul K' → sub1 N (S h) K' → sub1 N K' (cj N mul inv T a) → req N K' (S h) ∨ req N K' (cj N mul inv T a) := by
          intro K' p1 p2 p3
          have K2 := cj_SM g p1 (g := inv a) ⟨ia.1, ia.2.1⟩
          have u1 : sub1 N K (cj N mul inv K' (inv a)) := by
            have v1 : sub1 N (cj N mul inv (S k) a) K' := sub_t (req_sub (req_s e)) p2
            have v2 := cj_sub g v1 (inv a)
            exact sub_t (req_sub (req_s q2)) (sub_t (req_sub (req_s (cj_back g (hS k q0 q1) ⟨a0, a1⟩))) v2)
          have u2 : sub1 N (cj N mul inv K' (inv a)) T := sub_t (cj_sub g p3 (inv a)) (req_sub (cj_back g hT ⟨a0, a1⟩))
          rcases k4 _ K2.1 u1 u2 with w | w
          · exact Or.inl (req_s (sub_eq Sh p1 p2 (by rw [z1, ← req_sm w, K2.2]) g1))
          · exact Or.inr (sub_eq p1 T'.1 p3 (by rw [T'.2, ← req_sm w, K2.2]) g1)
        by_cases hall : ∀ y (o : Nat), 0 ≤ y → y < N → cj N mul inv T a y = 1 → isOr mul y o → ppf o = true → S h y = 1
        · exfalso
          refine nr (fun y y0 y1 => ?_)
          rcases T'.1.1 y y0 y1 with w | w
          · rcases Sh.1 y y0 y1 with w2 | w2
            · rw [w, w2]
            · rw [s1 y y0 y1 w2] at w; omega
          · obtain ⟨o, o1, o2⟩ := or_ex g (x := y) ⟨y0, y1⟩
            rw [w]
            refine pp_gen g Sh o (by omega) y ⟨y0, y1⟩ o1 (fun i oy p1 p2 => ?_)
            have r := pw_r g (x := y) ⟨y0, y1⟩ i
            exact hall _ oy r.1 r.2 (pw_S g ⟨y0, y1⟩ T'.1 w i) p1 p2
        · obtain ⟨y, q⟩ := Classical.not_forall.mp hall
          obtain ⟨o, q⟩ := Classical.not_forall.mp q
          obtain ⟨y0, q⟩ := Classical.not_imp.mp q
          obtain ⟨y1, q⟩ := Classical.not_imp.mp q
          obtain ⟨y2, q⟩ := Classical.not_imp.mp q
          obtain ⟨y3, q⟩ := Classical.not_imp.mp q
          obtain ⟨y4, q⟩ := Classical.not_imp.mp q
          obtain ⟨t, t0, t1, t2, ⟨i, t3⟩, j, t4⟩ := se y o y0 y1 y3 y4
          have tT : cj N mul inv T a t = 1 := by rw [t3]; exact pw_S g ⟨y0, y1⟩ T'.1 y2 i
          have tS : ¬ S h t = 1 := fun z => q (by rw [t4]; exact pw_S g ⟨t0, t1⟩ Sh z j)
          obtain ⟨k2', p0, p1, p2, p3, p4⟩ := cs h t h0 h1 hh t0 t1 t2
          have p5 := p4 _ T'.1 s1 tT
          rcases mx _ (hS k2' p0 p1) p2 p5 with w | w
          · exact absurd ((w t t0 t1).symm.trans p3) tS
          · obtain ⟨m, m0, m1, m2⟩ := cc k2' (inv a) p0 p1 ia.1 ia.2.1
            refine ⟨m, m0, m1, req_t m2 (req_t ?_ (cj_back g hT ⟨a0, a1⟩))⟩
            exact cj_congr g (hS k2' p0 p1).1 w (inv a)
      · obtain ⟨k, q0, q1, q2⟩ := c0
        refine ⟨k, q0, q1, req_t q2 (fun t t0 t1 => ?_)⟩
        unfold tr0
        split
        · rename_i z; rw [z]; exact hT.2.1.symm
        · rename_i z
          rcases hT.1 t t0 t1 with w | w
          · exact w.symm
          · exact absurd ⟨t, t0, t1, z, w⟩ hn
  exact fun T hT => main _ T hT rfl
end
