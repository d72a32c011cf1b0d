/-! which heap a set is, and the first over it -/
def inP (N H : Int) (S : Int → Int → Int) (U : Int → Int) (v : Int) : Prop := (0 ≤ v ∧ v < H) ∧ req N (S v) U
def loP (N H : Int) (S : Int → Int → Int) (U : Int → Int) (v : Int) : Prop := (0 ≤ v ∧ v < H) ∧ sub1 N U (S v) ∧ ∀ k, 0 ≤ k → k < v → ¬ sub1 N U (S k)
section
variable {N H : Int} {S S' : Int → Int → Int} {U U' : Int → Int} {mul : Int → Int → Int} {sz : Int → Int} {v w : Int}
theorem inP_u (h : hpsP N H mul S sz) (a : inP N H S U v) (b : inP N H S U w) : v = w := h.2.2.2.2 v w a.1.1 a.1.2 b.1.1 b.1.2 (rqt a.2 (rqs b.2))
theorem loP_u (a : loP N H S U v) (b : loP N H S U w) : v = w := by
  rcases Int.lt_trichotomy v w with q | q | q
  · exact absurd a.2.1 (b.2.2 v a.1.1 q)
  · exact q
  · exact absurd b.2.1 (a.2.2 w b.1.1 q)
theorem inP_c (e : ∀ k, 0 ≤ k → k < H → req N (S k) (S' k)) (eU : req N U U') (a : inP N H S U v) : inP N H S' U' v := ⟨a.1, rqt (rqs (e v a.1.1 a.1.2)) (rqt a.2 eU)⟩
theorem sub_c {A A' B B' : Int → Int} (ea : req N A A') (eb : req N B B') (h : sub1 N A B) : sub1 N A' B' := fun t t0 t1 q => by rw [← eb t t0 t1]; exact h t t0 t1 (by rw [ea t t0 t1]; exact q)
theorem loP_c (e : ∀ k, 0 ≤ k → k < H → req N (S k) (S' k)) (eU : req N U U') (a : loP N H S U v) : loP N H S' U' v := ⟨a.1, sub_c eU (e v a.1.1 a.1.2) a.2.1, fun k k0 k1 q => a.2.2 k k0 k1 (sub_c (rqs eU) (rqs (e k k0 (by have := a.1.2; omega))) q)⟩
/-- all turns are the last heap -/
theorem top_all (hp : hpsP N H mul S sz) (so : ∀ a b, 0 ≤ a → a < b → b < H → ahd N (S a) (S b)) (N1 : 1 ≤ N) : ∀ t, 0 ≤ t → t < N → S (H - 1) t = 1 := by
  obtain ⟨k, k0, k1, k2⟩ := hp.2.2.2.1 (fun _ => 1) ⟨fun _ _ _ => Or.inr rfl, rfl, fun _ _ _ _ _ _ _ _ => rfl⟩
  have en : ((N.toNat : Nat) : Int) = N := Int.toNat_of_nonneg (by omega)
  by_cases y : k = H - 1
  · intro t t0 t1
    rw [← y]; exact k2 t t0 t1
  · exfalso
    have h1 := hp.1
    have z01 := (hp.2.2.1 (H - 1) (by omega) (by omega)).1.1
    have le : ∀ i : Int, 0 ≤ i → i < N.toNat → S (H - 1) i ≤ S k i := fun i i0 i1 => by
      have w : S k i = 1 := k2 i i0 (by omega)
      rw [w]
      rcases z01 i i0 (by omega) with z | z <;> omega
    rcases so k (H - 1) k0 (by omega) (by omega) with z | ⟨z, t, t0, t1, z1, z2, _⟩
    · have := sm_le le
      omega
    · have := sm_lt (j := t) le t0 (by omega) (by omega)
      omega
end
/-! bits of a set within another -/
theorem lb_m1 : ∀ k : Fin 64, lb (-1) k.val = true := by decide +kernel
theorem sub0 (a b : Int) : jand a (jxor b (-1)) = 0 ↔ ∀ k, k < 64 → lb a k = true → lb b k = true := by
  constructor
  · intro z k hk h
    have q := lb_and a (jxor b (-1)) k
    rw [z, (lb_c ⟨k, hk⟩).1, lb_xor, lb_m1 ⟨k, hk⟩, h] at q
    cases e : lb b k with
    | true => rfl
    | false => rw [e] at q; exact absurd q (by decide)
  · intro h
    refine l_ext (t64 _) (by omega) (fun k hk => ?_)
    rw [lb_and, lb_xor, lb_m1 ⟨k, hk⟩, (lb_c ⟨k, hk⟩).1]
    cases e : lb a k with
    | false => rfl
    | true => rw [h k hk e]; rfl
theorem bt_sub {lo hi lo' hi' : Int} : (jand lo (jxor lo' (-1)) = 0 ∧ jand hi (jxor hi' (-1)) = 0) ↔ ∀ t, 0 ≤ t → t < 128 → bt lo hi t = 1 → bt lo' hi' t = 1 := by
  rw [sub0, sub0]
  constructor
  · rintro ⟨h1, h2⟩ t t0 t1 q
    by_cases y : t < 64
    · obtain ⟨k, ek⟩ : ∃ k : Nat, t = k := ⟨t.toNat, by omega⟩
      rw [ek, bt_lo (by omega)] at q ⊢
      rw [h1 k (by omega) (lb_1 q)]; rfl
    · obtain ⟨k, ek⟩ : ∃ k : Nat, t = 64 + k := ⟨(t - 64).toNat, by omega⟩
      rw [ek, bt_hi] at q ⊢
      rw [h2 k (by omega) (lb_1 q)]; rfl
  · intro h
    refine ⟨fun k hk q => ?_, fun k hk q => ?_⟩
    · have := h k (by omega) (by omega) (by rw [bt_lo hk, q]; rfl)
      rw [bt_lo hk] at this
      exact lb_1 this
    · have := h (64 + k) (by omega) (by omega) (by rw [bt_hi, q]; rfl)
      rw [bt_hi] at this
      exact lb_1 this
theorem bt_and {lo hi lo' hi' t : Int} (h : 0 ≤ t ∧ t < 128) : bt (jand lo lo') (jand hi hi') t = if bt lo hi t = 1 ∧ bt lo' hi' t = 1 then 1 else 0 := by
  by_cases y : t < 64
  · obtain ⟨k, ek⟩ : ∃ k : Nat, t = k := ⟨t.toNat, by omega⟩
    rw [ek, bt_lo (by omega), bt_lo (by omega), bt_lo (by omega), lb_and]
    cases lb lo k <;> cases lb lo' k <;> rfl
  · obtain ⟨k, ek⟩ : ∃ k : Nat, t = 64 + k := ⟨(t - 64).toNat, by omega⟩
    rw [ek, bt_hi, bt_hi, bt_hi, lb_and]
    cases lb hi k <;> cases lb hi' k <;> rfl
theorem bt_or {lo hi lo' hi' t : Int} (h : 0 ≤ t ∧ t < 128) : bt (jor lo lo') (jor hi hi') t = if bt lo hi t = 1 ∨ bt lo' hi' t = 1 then 1 else 0 := by
  by_cases y : t < 64
  · obtain ⟨k, ek⟩ : ∃ k : Nat, t = k := ⟨t.toNat, by omega⟩
    rw [ek, bt_lo (by omega), bt_lo (by omega), bt_lo (by omega), lb_or]
    cases lb lo k <;> cases lb lo' k <;> rfl
  · obtain ⟨k, ek⟩ : ∃ k : Nat, t = 64 + k := ⟨(t - 64).toNat, by omega⟩
    rw [ek, bt_hi, bt_hi, bt_hi, lb_or]
    cases lb hi k <;> cases lb hi' k <;> rfl
/-! the class's -/
section
variable {G : List gS} {R V : gV} {T : gT} {W : gV} {L : Int → Int} {I : Int → gD} {B M S N g b x p n o m y : Nat} {C D E K : Int} {mul : Int → Int → Int} {U : Int → Int}
theorem lk_hf {d : gD} (lk : lkT T R g d) (th : TH T V) (hx : hsX d) : hfX (d 0 1) (fun s t => d (2 + s) t) V (g + 10) := by
  have e0 : V (g + 10) 0 = d 0 2 := lk.2.2.2.2.2.2.1 _ (th (g + 10) 0)
  have e1 : ∀ i, V (g + 10 + 1) i = d 201 i := fun i => lk.2.2.2.2.2.2.2.2.1 1 (by omega) (by omega) (by omega) i _ (th (g + 10 + 1) i)
  have e2 : ∀ i, V (g + 10 + 2) i = d 202 i := fun i => lk.2.2.2.2.2.2.2.2.1 2 (by omega) (by omega) (by omega) i _ (th (g + 10 + 2) i)
  have e3 : ∀ i, V (g + 10 + 3) i = d 203 i := fun i => lk.2.2.2.2.2.2.2.2.1 3 (by omega) (by omega) (by omega) i _ (th (g + 10 + 3) i)
  have eh : hR V (g + 10) = hsD d := by
    funext k t
    show bt (V (g + 10 + 1) k) (V (g + 10 + 2) k) t = bt (d 201 k) (d 202 k) t
    rw [e1, e2]
  have es : (fun k => V (g + 10 + 3) k) = fun k => d 203 k := funext e3
  unfold hfX
  rw [e0, eh, es]
  exact hx
theorem indexOf_x (ly : lay4 G R y) (h3 : V y 0 ≤ 300) {a c : Int} (ha : i64 a) (hc : i64 c) : cwv 1 (fun r V' => ∃ v : Int, r = some (0, v) ∧ (V' = V ∧ ((v = -1 ∧ ∀ k, 0 ≤ k → k < V y 0 → ¬ (V (y + 1) k = a ∧ V (y + 2) k = c)) ∨ (0 ≤ v ∧ v < V y 0 ∧ V (y + 1) v = a ∧ V (y + 2) v = c)))) 62 [(4, (y : Int)), (2, a), (2, c)] G R V := by
  refine c_X4_indexOf (t_X4_indexOf_0 ly ?_)
  refine pool1 (f := fun i => [some (4, (y : Int)), some (2, a), none, some (2, c), none, some (0, i)]) (Inv := fun i => 0 ≤ i ∧ i ≤ 300 ∧ ∀ k, 0 ≤ k → k < i → ¬ (V (y + 1) k = a ∧ V (y + 2) k = c)) (μ := fun i => (300 - i).toNat) (fun i hi ih => ?_) 0 ⟨by omega, by omega, fun k k0 k1 => by omega⟩
  obtain ⟨i0, i1, hk⟩ := hi
  have nx : ¬ (V (y + 1) i = a ∧ V (y + 2) i = c) → ∀ k, 0 ≤ k → k < i + 1 → ¬ (V (y + 1) k = a ∧ V (y + 2) k = c) := by
    intro w k k0 k1
    by_cases q : k = i
    · rw [q]; exact w
    · exact hk k k0 (by omega)
  exact t_X4_indexOf_3 ly (fun _ => ⟨by omega, fun z => ⟨-1, rfl, rfl, Or.inl ⟨rfl, fun k k0 k1 => hk k k0 (by omega)⟩⟩, fun z => ⟨by omega, fun _ => ⟨ha, fun z1 => ⟨by omega, ih _ ⟨by omega, by omega, nx (fun w => z1 w.1)⟩ (by omega)⟩, fun z1 _ => ⟨hc, fun z2 => ⟨by omega, ih _ ⟨by omega, by omega, nx (fun w => z2 w.2)⟩ (by omega)⟩, fun z2 => ⟨i, rfl, rfl, Or.inr ⟨i0, z, z1, z2⟩⟩⟩⟩⟩⟩)
theorem indexOf_y (ly : lay4 G R y) (hx : hfX K mul V y) (hK : K ≤ 128) {a c : Int} (ha : i64 a) (hc : i64 c) (zU : ∀ t, K ≤ t → t < 128 → bt a c t = 0) (sU : SM K mul (bt a c)) : cwv 1 (fun r V' => ∃ v : Int, r = some (0, v) ∧ (V' = V ∧ inP K (V y 0) (hR V y) (bt a c) v)) 62 [(4, (y : Int)), (2, a), (2, c)] G R V := by
  have h3 := hx.1.2.1
  refine cw_vr (fun vr => cwI_u (Nat.le_refl _) (indexOf_x ly h3 ha hc) (fun v V' hv => ?_))
  obtain ⟨eV, hv⟩ := hv
  refine ⟨eV, ?_⟩
  rcases hv with ⟨v1, no⟩ | ⟨v0, v1, v2, v3⟩
  · exfalso
    obtain ⟨k, k0, k1, k2⟩ := hx.1.2.2.2.1 _ sU
    refine no k k0 k1 (bt_ext (vr_a1 vr (ly4_2 ly).2 ⟨by omega, by omega⟩) (vr_a1 vr (ly4_3 ly).2 ⟨by omega, by omega⟩) ha hc (fun t t0 t1 => ?_))
    by_cases q : t < K
    · exact k2 t t0 q
    · have w1 : bt (V (y + 1) k) (V (y + 2) k) t = 0 := hx.2.2 k k0 k1 t (by omega) t1
      rw [w1, zU t (by omega) t1]
  · refine ⟨⟨v0, v1⟩, fun t _ _ => ?_⟩
    show bt (V (y + 1) v) (V (y + 2) v) t = bt a c t
    rw [v2, v3]
theorem leastOver_y (ly : lay4 G R y) (hx : hfX K mul V y) (hK : 1 ≤ K ∧ K ≤ 128) {a c : Int} (zU : ∀ t, K ≤ t → t < 128 → bt a c t = 0) : cwv 1 (fun r V' => ∃ v : Int, r = some (0, v) ∧ (V' = V ∧ loP K (V y 0) (hR V y) (bt a c) v)) 63 [(4, (y : Int)), (2, a), (2, c)] G R V := by
  have h1 := hx.1.1
  have h3 := hx.1.2.1
  have top := top_all hx.1 hx.2.1 hK.1
  have iff : ∀ k, 0 ≤ k → k < V y 0 → ((jand a (jxor (V (y + 1) k) (-1)) = 0 ∧ jand c (jxor (V (y + 2) k) (-1)) = 0) ↔ sub1 K (bt a c) (hR V y k)) := fun k k0 k1 => by
    rw [bt_sub]
    constructor
    · exact fun h t t0 t1 q => h t t0 (by omega) q
    · intro h t t0 t1 q
      by_cases w : t < K
      · exact h t t0 w q
      · have := zU t (by omega) t1
        omega
  refine c_X4_leastOver (t_X4_leastOver_0 ly (fun _ => ⟨by omega, ?_⟩))
  refine pool1 (f := fun i => [some (4, (y : Int)), some (2, a), none, some (2, c), none, some (0, V y 0 - 1), some (0, i)]) (Inv := fun i => 0 ≤ i ∧ i ≤ V y 0 - 1 ∧ ∀ k, 0 ≤ k → k < i → ¬ sub1 K (bt a c) (hR V y k)) (μ := fun i => (300 - i).toNat) (fun i hi ih => ?_) 0 ⟨by omega, by omega, fun k k0 k1 => by omega⟩
  obtain ⟨i0, i1, hk⟩ := hi
  have nx : i < V y 0 - 1 → ¬ sub1 K (bt a c) (hR V y i) → ∀ k, 0 ≤ k → k < i + 1 → ¬ sub1 K (bt a c) (hR V y k) := by
    intro z w k k0 k1
    by_cases q : k = i
    · rw [q]; exact w
    · exact hk k k0 (by omega)
  refine t_X4_leastOver_11 ly ⟨by omega, by omega, fun z => ⟨_, rfl, rfl, by omega, fun t t0 t1 _ => top t t0 t1, fun k k0 k1 => hk k k0 (by omega)⟩, fun z => ⟨by omega, fun _ => ⟨fun z1 => ⟨by omega, ih _ ⟨by omega, by omega, nx z (fun w => z1 ((iff i i0 (by omega)).mpr w).1)⟩ (by omega)⟩, fun z1 _ => ⟨fun z2 => ⟨by omega, ih _ ⟨by omega, by omega, nx z (fun w => z2 ((iff i i0 (by omega)).mpr w).2)⟩ (by omega)⟩, fun z2 => ⟨i, rfl, rfl, by omega, (iff i i0 (by omega)).mp ⟨z1, z2⟩, hk⟩⟩⟩⟩⟩
end
