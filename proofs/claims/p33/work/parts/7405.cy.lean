/-! which heap a set is, and the first over it -/
def inP (N H : Int) (S : Int → Int → Int) (U : Int → Int) (v : Int) : Prop := (0 ≤ v ∧ v < H) ∧ req N (S v) U
def loP (N H : Int) (S : Int → Int → Int) (U : Int → Int) (v : Int) : Prop := (0 ≤ v ∧ v < H) ∧ sub1 N U (S v) ∧ ∀ k, 0 ≤ k → k < v → ¬ sub1 N U (S k)
section
variable {N H : Int} {S S' : Int → Int → Int} {U U' : Int → Int} {mul : Int → Int → Int} {sz : Int → Int} {v w : Int}
theorem inP_u (h : hpsP N H mul S sz) (a : inP N H S U v) (b : inP N H S U w) : v = w := h.2.2.2.2 v w a.1.1 a.1.2 b.1.1 b.1.2 (rqt a.2 (rqs b.2))
theorem loP_u (a : loP N H S U v) (b : loP N H S U w) : v = w := by
  rcases Int.lt_trichotomy v w with q | q | q
  · exact absurd a.2.1 (b.2.2 v a.1.1 q)
  · exact q
  · exact absurd b.2.1 (a.2.2 w b.1.1 q)
theorem inP_c (e : ∀ k, 0 ≤ k → k < H → req N (S k) (S' k)) (eU : req N U U') (a : inP N H S U v) : inP N H S' U' v := ⟨a.1, rqt (rqs (e v a.1.1 a.1.2)) (rqt a.2 eU)⟩
theorem sub_c {A A' B B' : Int → Int} (ea : req N A A') (eb : req N B B') (h : sub1 N A B) : sub1 N A' B' := fun t t0 t1 q => by rw [← eb t t0 t1]; exact h t t0 t1 (by rw [ea t t0 t1]; exact q)
theorem loP_c (e : ∀ k, 0 ≤ k → k < H → req N (S k) (S' k)) (eU : req N U U') (a : loP N H S U v) : loP N H S' U' v := ⟨a.1, sub_c eU (e v a.1.1 a.1.2) a.2.1, fun k k0 k1 q => a.2.2 k k0 k1 (sub_c (rqs eU) (rqs (e k k0 (by have := a.1.2; omega))) q)⟩
/-- all turns are the last heap -/
theorem top_all (hp : hpsP N H mul S sz) (so : ∀ a b, 0 ≤ a → a < b → b < H → ahd N (S a) (S b)) (N1 : 1 ≤ N) : ∀ t, 0 ≤ t → t < N → S (H - 1) t = 1 := by
  obtain ⟨k, k0, k1, k2⟩ := hp.2.2.2.1 (fun _ => 1) ⟨fun _ _ _ => Or.inr rfl, rfl, fun _ _ _ _ _ _ _ _ => rfl⟩
  have en : ((N.toNat : Nat) : Int) = N := Int.toNat_of_nonneg (by omega)
  by_cases y : k = H - 1
  · intro t t0 t1
    rw [← y]; exact k2 t t0 t1
  · exfalso
    have h1 := hp.1
    have z01 := (hp.2.2.1 (H - 1) (by omega) (by omega)).1.1
    have le : ∀ i : Int, 0 ≤ i → i < N.toNat → S (H - 1) i ≤ S k i := fun i i0 i1 => by
      have w : S k i = 1 := k2 i i0 (by omega)
      rw [w]
      rcases z01 i i0 (by omega) with z | z <;> omega
    rcases so k (H - 1) k0 (by omega) (by omega) with z | ⟨z, t, t0, t1, z1, z2, _⟩
    · have := sm_le le
      omega
    · have := sm_lt (j := t) le t0 (by omega) (by omega)
      omega
end
/-! what one turn makes -/
noncomputable def cyc (mul : Int → Int → Int) (t : Int) : Int → Int := fun u => bi (∃ j : Nat, pw mul t j = u)
/-- one turn alone -/
noncomputable def one (t : Int) : Int → Int := fun u => bi (u = t)
section
variable {N H : Int} {mul mul' : Int → Int → Int} {inv : Int → Int} {S : Int → Int → Int} {sz : Int → Int} {t v : Int} {o : Nat}
theorem cyc_SM (gt : GT N mul inv) (t0 : 0 ≤ t ∧ t < N) : SM N mul (cyc mul t) := by
  refine ⟨fun _ _ _ => bi_01 _, bi_t ⟨0, rfl⟩, fun a b _ _ _ _ ha hb => ?_⟩
  obtain ⟨i, ei⟩ := bi_1.mp ha
  obtain ⟨j, ej⟩ := bi_1.mp hb
  exact bi_t ⟨i + j, by rw [pw_add gt t0, ei, ej]⟩
theorem cyc_t (gt : GT N mul inv) (t0 : 0 ≤ t ∧ t < N) : cyc mul t t = 1 := bi_t ⟨1, pw_1 gt t0⟩
theorem cyc_le (gt : GT N mul inv) (t0 : 0 ≤ t ∧ t < N) {W : Int → Int} (hW : SM N mul W) (h : W t = 1) : sub1 N (cyc mul t) W := fun u _ _ q => by
  obtain ⟨j, e⟩ := bi_1.mp q
  rw [← e]; exact pw_S gt t0 hW h j
theorem cyc_o (gt : GT N mul inv) (t0 : 0 ≤ t ∧ t < N) (h : isOr mul t o) (u : Int) : cyc mul t u = bi (∃ j : Nat, j < o ∧ pw mul t j = u) := by
  refine bi_c ⟨?_, fun ⟨j, _, e⟩ => ⟨j, e⟩⟩
  rintro ⟨j, e⟩
  exact ⟨j % o, Nat.mod_lt _ (by have := h.1; omega), by rw [← or_mod gt t0 h]; exact e⟩
theorem cyc_sz (gt : GT N mul inv) (t0 : 0 ≤ t ∧ t < N) (h : isOr mul t o) : sm (cyc mul t) N.toNat = o := by
  have en := GT_n gt
  have z := imf_sm (a := fun _ => 1) (φ := fun i => pw mul t i.toNat) (n := N.toNat) o (fun _ _ _ => Or.inr rfl) (fun i _ _ _ => by have := pw_r gt t0 i.toNat; (try dsimp only); omega) (fun i j i0 i1 j0 j1 _ _ e => ?_)
  · rw [sm_k, Int.mul_one] at z
    rw [← z]
    refine sm_congr (fun u u0 u1 => ?_)
    rw [cyc_o gt t0 h]
    obtain ⟨s1, s2⟩ := imf_spec (fun _ => 1) (fun i => pw mul t i.toNat) o u
    rcases s1 with q | q
    · rw [q]
      refine bi_f ?_
      rintro ⟨j, j1, e⟩
      have := s2.mpr ⟨j, by omega, by omega, rfl, by (try dsimp only); rw [Int.toNat_natCast]; exact e⟩
      omega
    · rw [q]
      obtain ⟨i, i0, i1, _, e⟩ := s2.mp q
      exact bi_t ⟨i.toNat, by omega, e⟩
  · have key : ∀ a b : Nat, a < b → b < o → pw mul t a = pw mul t b → False := fun a b ab bo w => by
      have r := pw_r gt t0 a
      have r2 := pw_r gt t0 (b - a)
      have e2 : pw mul t b = mul (pw mul t a) (pw mul t (b - a)) := by rw [← pw_add gt t0, show a + (b - a) = b by omega]
      have : pw mul t (b - a) = 0 := GT_cl gt r r2 ⟨by omega, by have := gt.1; omega⟩ (by rw [← e2, ← w, (gt.2.2.1 _ r.1 r.2).2])
      exact h.2.2 (b - a) (by omega) (by omega) this
    (try dsimp only at e)
    rcases Nat.lt_trichotomy i.toNat j.toNat with q | q | q
    · exact (key _ _ q (by omega) e).elim
    · omega
    · exact (key _ _ q (by omega) e.symm).elim
/-- the heap that a turn makes is the first that has it -/
theorem cyc_lo (gt : GT N mul inv) (hp : hpsP N H mul S sz) (so : srtS N H S) (t0 : 0 ≤ t ∧ t < N) (h : inP N H S (cyc mul t) v) : loP N H S (one t) v := by
  refine ⟨h.1, fun u u0 u1 q => ?_, fun k k0 k1 q => ?_⟩
  · have e := bi_1.mp q
    rw [h.2 u u0 u1, e]; exact cyc_t gt t0
  · have hv := h.1
    have w : S k t = 1 := q t t0.1 t0.2 (bi_t rfl)
    have sk := (hp.2.2.1 k k0 (by omega)).1
    have l : sub1 N (S v) (S k) := sub_rq (rqs h.2) (fun _ _ _ => rfl) (cyc_le gt t0 sk w)
    have a := sub_szl hp (by have := gt.1; omega) h.1 (k := k) ⟨k0, by omega⟩ l (by omega)
    have b := srt_sz hp so k0 (show k ≤ v by omega) hv.2
    omega
theorem cyc_in (hp : hpsP N H mul S sz) (h : inP N H S (cyc mul t) v) : sz v = sm (cyc mul t) N.toNat := by
  rw [(hp.2.2.1 v h.1.1 h.1.2).2]; exact rqm h.2
theorem pw_E (gt : GT N mul inv) (e : ∀ s u, 0 ≤ s → s < N → 0 ≤ u → u < N → mul s u = mul' s u) (t0 : 0 ≤ t ∧ t < N) : ∀ k, pw mul t k = pw mul' t k := by
  intro k
  induction k with
  | zero => rfl
  | succ k ih =>
    have r := pw_r gt t0 k
    show mul (pw mul t k) t = mul' (pw mul' t k) t
    rw [← ih, e _ _ r.1 r.2 t0.1 t0.2]
theorem cyc_E (gt : GT N mul inv) (e : ∀ s u, 0 ≤ s → s < N → 0 ≤ u → u < N → mul s u = mul' s u) (t0 : 0 ≤ t ∧ t < N) : cyc mul t = cyc mul' t := by
  funext u
  exact bi_c ⟨fun ⟨j, q⟩ => ⟨j, by rw [← pw_E gt e t0]; exact q⟩, fun ⟨j, q⟩ => ⟨j, by rw [pw_E gt e t0]; exact q⟩⟩
theorem isOr_E (gt : GT N mul inv) (e : ∀ s u, 0 ≤ s → s < N → 0 ≤ u → u < N → mul s u = mul' s u) (t0 : 0 ≤ t ∧ t < N) (h : isOr mul t o) : isOr mul' t o := by
  have q := pw_E gt e t0
  exact ⟨h.1, by rw [← q]; exact h.2.1, fun k k0 k1 => by rw [← q]; exact h.2.2 k k0 k1⟩
theorem GT_E (gt : GT N mul inv) (e : ∀ s u, 0 ≤ s → s < N → 0 ≤ u → u < N → mul s u = mul' s u) : GT N mul' inv := by
  obtain ⟨g1, g2, g3, g4, g5⟩ := gt
  have z : (0 : Int) < N := by omega
  refine ⟨g1, fun s t a b c d => by rw [← e s t a b c d]; exact g2 s t a b c d, fun t a b => by rw [← e 0 t (by omega) z a b, ← e t 0 a b (by omega) z]; exact g3 t a b, fun r s t a b c d f h => ?_, fun s a b => ?_⟩
  · have m1 := g2 r s a b c d
    have m2 := g2 s t c d f h
    rw [← e r s a b c d, ← e _ t m1.1 m1.2 f h, ← e s t c d f h, ← e r _ a b m2.1 m2.2]
    exact g4 r s t a b c d f h
  · have i := g5 s a b
    exact ⟨i.1, i.2.1, by rw [← e _ _ a b i.1 i.2.1]; exact i.2.2.1, by rw [← e _ _ i.1 i.2.1 a b]; exact i.2.2.2⟩
end
