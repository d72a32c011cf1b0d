/-! numbers that wrap around -/
def jw (x : Int) : Int := (Int64.ofInt x).toInt
def kw (x : Int) : Int := (Int32.ofInt x).toInt
theorem jw_r (x : Int) : i64 (jw x) := t64 _
theorem kw_r (x : Int) : i32 (kw x) := t32 _
theorem jw_e {x : Int} (h : i64 x) : jw x = x := Int64.toInt_ofInt_of_le (by have := h.1; omega) (by have := h.2; omega)
theorem kw_e {x : Int} (h : i32 x) : kw x = x := Int32.toInt_ofInt_of_le (by have := h.1; omega) (by have := h.2; omega)
theorem jo_w (x : Int) : Int64.ofInt (jw x) = Int64.ofInt x := Int64.ofInt_toInt _
theorem ko_w (x : Int) : Int32.ofInt (kw x) = Int32.ofInt x := Int32.ofInt_toInt _
theorem jsub_j (a b : Int) : jsub (jw a) (jw b) = jw (a - b) := by
  unfold jsub
  rw [jo_w, jo_w, ← Int64.ofInt_sub]
  rfl
theorem jadd_j (a b : Int) : jadd (jw a) (jw b) = jw (a + b) := by
  unfold jadd
  rw [jo_w, jo_w, ← Int64.ofInt_add]
  rfl
theorem jmul_j (a b : Int) : jmul (jw a) (jw b) = jw (a * b) := by
  unfold jmul
  rw [jo_w, jo_w, ← Int64.ofInt_mul]
  rfl
theorem jsub_w (a b : Int) : jsub a b = jw (a - b) := by unfold jsub jw; rw [← Int64.ofInt_sub]
theorem jadd_w (a b : Int) : jadd a b = jw (a + b) := by unfold jadd jw; rw [← Int64.ofInt_add]
theorem jmul_w (a b : Int) : jmul a b = jw (a * b) := by unfold jmul jw; rw [← Int64.ofInt_mul]
theorem kadd_w (a b : Int) : kadd a b = kw (a + b) := by unfold kadd kw; rw [← Int32.ofInt_add]
theorem kmul_w (a b : Int) : kmul a b = kw (a * b) := by unfold kmul kw; rw [← Int32.ofInt_mul]
theorem kneg_w (a : Int) : kneg a = kw (-a) := by unfold kneg kw; rw [← Int32.ofInt_neg]
theorem jw_jw (a : Int) : jw (jw a) = jw a := by unfold jw; rw [Int64.ofInt_toInt]
theorem jw_a (a b : Int) : jw (jw a + b) = jw (a + b) := by
  unfold jw
  rw [Int64.ofInt_add, Int64.ofInt_toInt, ← Int64.ofInt_add]
theorem jw_b (a b : Int) : jw (a + jw b) = jw (a + b) := by rw [Int.add_comm, jw_a, Int.add_comm]
theorem jw_ml (a b : Int) : jw (jw a * b) = jw (a * b) := by
  unfold jw
  rw [Int64.ofInt_mul, Int64.ofInt_toInt, ← Int64.ofInt_mul]
theorem jw_mr (a b : Int) : jw (a * jw b) = jw (a * b) := by rw [Int.mul_comm, jw_ml, Int.mul_comm]
theorem jw_s (a b : Int) : jw (jw a - jw b) = jw (a - b) := by rw [← jsub_w, jsub_j]
theorem kw_a (a b : Int) : kw (kw a + b) = kw (a + b) := by
  unfold kw
  rw [Int32.ofInt_add, Int32.ofInt_toInt, ← Int32.ofInt_add]
theorem kw_b (a b : Int) : kw (a + kw b) = kw (a + b) := by rw [Int.add_comm, kw_a, Int.add_comm]
theorem kw_ml (a b : Int) : kw (kw a * b) = kw (a * b) := by
  unfold kw
  rw [Int32.ofInt_mul, Int32.ofInt_toInt, ← Int32.ofInt_mul]
theorem kw_mr (a b : Int) : kw (a * kw b) = kw (a * b) := by rw [Int.mul_comm, kw_ml, Int.mul_comm]
theorem kw_n (a : Int) : kw (-(kw a)) = kw (-a) := by
  unfold kw
  rw [Int32.ofInt_neg, Int32.ofInt_toInt, ← Int32.ofInt_neg]
theorem kl2i_j (a : Int) : kl2i (jw a) = kw a := by
  unfold kl2i
  rw [jo_w, Int64.toInt32_ofInt]
  rfl
/-! the signs of heaps -/
def muN (H : Int) (L : Int → Int → Int) : Nat → Int → Int
  | 0, _ => 0
  | n + 1, h => (if h = H - 1 then 1 else 0) - sm (fun k => if h < k then L h k * muN H L n k else 0) H.toNat
def mu (H : Int) (L : Int → Int → Int) (h : Int) : Int := muN H L (H - h).toNat h
section
variable {H : Int} {L L' : Int → Int → Int}
theorem mu_st : ∀ (n : Nat) (h : Int), 0 ≤ h → h < H → (H - h).toNat ≤ n → muN H L n h = muN H L (H - h).toNat h := by
  intro n
  induction n using Nat.strongRecOn with
  | ind n ih =>
    intro h h0 h1 hn
    obtain ⟨m, em⟩ : ∃ m, n = m + 1 := ⟨n - 1, by omega⟩
    obtain ⟨q, eq⟩ : ∃ q, (H - h).toNat = q + 1 := ⟨(H - h).toNat - 1, by omega⟩
    rw [eq, em]
    show (if h = H - 1 then 1 else 0) - sm (fun k => if h < k then L h k * muN H L m k else 0) H.toNat = (if h = H - 1 then 1 else 0) - sm (fun k => if h < k then L h k * muN H L q k else 0) H.toNat
    rw [sm_congr (f := fun k => if h < k then L h k * muN H L m k else 0) (g := fun k => if h < k then L h k * muN H L q k else 0) (fun k k0 k1 => ?_)]
    (try dsimp only)
    by_cases z : h < k
    · rw [if_pos z, if_pos z, ih m (by omega) k k0 (by omega) (by omega), ih q (by omega) k k0 (by omega) (by omega)]
    · rw [if_neg z, if_neg z]
theorem mu_eq {h : Int} (h0 : 0 ≤ h) (h1 : h < H) : mu H L h = (if h = H - 1 then 1 else 0) - sm (fun k => if h < k then L h k * mu H L k else 0) H.toNat := by
  obtain ⟨q, eq⟩ : ∃ q, (H - h).toNat = q + 1 := ⟨(H - h).toNat - 1, by omega⟩
  unfold mu
  rw [eq]
  show (if h = H - 1 then 1 else 0) - sm (fun k => if h < k then L h k * muN H L q k else 0) H.toNat = _
  rw [sm_congr (f := fun k => if h < k then L h k * muN H L q k else 0) (g := fun k => if h < k then L h k * muN H L (H - k).toNat k else 0) (fun k k0 k1 => ?_)]
  (try dsimp only)
  by_cases z : h < k
  · rw [if_pos z, if_pos z, mu_st q k k0 (by omega) (by omega)]
  · rw [if_neg z, if_neg z]
theorem mu_c (e : ∀ a b, 0 ≤ a → a < H → 0 ≤ b → b < H → L a b = L' a b) : ∀ (w : Nat) (h : Int), (H - h).toNat = w → 0 ≤ h → h < H → mu H L h = mu H L' h := by
  intro w
  induction w using Nat.strongRecOn with
  | ind w ih =>
    intro h hw h0 h1
    rw [mu_eq h0 h1, mu_eq h0 h1, sm_congr (f := fun k => if h < k then L h k * mu H L k else 0) (g := fun k => if h < k then L' h k * mu H L' k else 0) (fun k k0 k1 => ?_)]
    (try dsimp only)
    by_cases z : h < k
    · rw [if_pos z, if_pos z, e h k h0 h1 k0 (by omega), ih _ (by omega) k rfl k0 (by omega)]
    · rw [if_neg z, if_neg z]
end
section
variable {N H C : Int} {mul : Int → Int → Int} {inv : Int → Int} {S S' : Int → Int → Int} {sz co fo nu f : Int → Int} {g h k a b c e : Int}
theorem mu_S (e : ∀ k, 0 ≤ k → k < H → req N (S k) (S' k)) (h0 : 0 ≤ h) (h1 : h < H) : mu H (Lq N S) h = mu H (Lq N S') h := mu_c (fun a b a0 a1 b0 b1 => bi_c (sub_iff (e a a0 a1) (e b b0 b1))) _ h rfl h0 h1
/-- all that lie over a heap, itself too -/
theorem mu_all (hp : hpsP N H mul S sz) (so : srtS N H S) (hn : 0 ≤ N) (h0 : 0 ≤ h ∧ h < H) : sm (fun k => Lq N S h k * mu H (Lq N S) k) H.toNat = if h = H - 1 then 1 else 0 := by
  have eh := hp_n hp
  have z := mu_eq (L := Lq N S) h0.1 h0.2
  have e : sm (fun k => Lq N S h k * mu H (Lq N S) k) H.toNat = sm (fun k => bi (h = k) * mu H (Lq N S) k + (if h < k then Lq N S h k * mu H (Lq N S) k else 0)) H.toNat := by
    refine sm_congr (fun k k0 k1 => ?_)
    (try dsimp only)
    by_cases q : h < k
    · rw [if_pos q, bi_f (by omega), Int.zero_mul, Int.zero_add]
    · rw [if_neg q, Int.add_zero]
      by_cases r : h = k
      · rw [bi_t r, ← r, Lq_rf]
      · rw [bi_f r, Lq_lt hp so hn h0 ⟨k0, by omega⟩ (by omega)]
  rw [e, sm_add (fun k => bi (h = k) * mu H (Lq N S) k), sm_dl h0.1 (by omega)]
  omega
theorem top_r (gt : GT N mul inv) (hp : hpsP N H mul S sz) (so : srtS N H S) : ∀ t, 0 ≤ t → t < N → S (H - 1) t = 1 := by
  have N1 := gt.1
  obtain ⟨k, k0, k1, k2⟩ := hp.2.2.2.1 (fun _ => 1) ⟨fun _ _ _ => Or.inr rfl, rfl, fun _ _ _ _ _ _ _ _ => rfl⟩
  have h1 := hp.1
  have e : k = H - 1 := by
    apply Classical.byContradiction
    intro ne
    have w : sub1 N (S (H - 1)) (S k) := fun t t0 t1 _ => k2 t t0 t1
    have a := sub_szl hp (by omega) (h := H - 1) (by omega) ⟨k0, k1⟩ w (by omega)
    have b := srt_sz hp so k0 (show k ≤ H - 1 by omega) (by omega)
    omega
  intro t t0 t1
  rw [← e]; exact k2 t t0 t1
theorem top_ld (gt : GT N mul inv) (hp : hpsP N H mul S sz) (so : srtS N H S) (g0 : 0 ≤ g ∧ g < N) : ld N H mul inv S (H - 1) g = H - 1 := by
  have h1 := hp.1
  have t := top_r gt hp so
  refine ld_e gt hp (by omega) g0 (by omega) (fun u u0 u1 => ?_)
  rw [t u u0 u1]
  refine ((cj_in gt).mpr ?_).symm
  have ig := GT_i gt g0
  have a := GT_m gt g0 (b := u) ⟨u0, u1⟩
  have b := GT_m gt a ig
  refine ⟨mul (mul g u) (inv g), b.1, b.2, t _ b.1 b.2, ?_⟩
  rw [GT_a gt ig b g0, GT_rj gt a g0, ← GT_a gt ig g0 ⟨u0, u1⟩, (gt.2.2.2.2 g g0.1 g0.2).2.2.2, (gt.2.2.1 u u0 u1).1]
/-- heaps that are led to each other have one sign -/
theorem mu_ld (gt : GT N mul inv) (hp : hpsP N H mul S sz) (so : srtS N H S) (g0 : 0 ≤ g ∧ g < N) : ∀ (w : Nat) (h : Int), (H - h).toNat = w → (0 ≤ h ∧ h < H) → mu H (Lq N S) (ld N H mul inv S h g) = mu H (Lq N S) h := by
  have N1 := gt.1
  have eh := hp_n hp
  intro w
  induction w using Nat.strongRecOn with
  | ind w ih =>
    intro h hw h0
    have l := ld_s gt hp h0 g0
    have a := mu_all hp so (by omega) h0
    have b := mu_all hp so (by omega) l.1
    have tp : ld N H mul inv S h g = H - 1 ↔ h = H - 1 := ⟨fun q => ld_in gt hp h0 (by omega) g0 (by rw [q, top_ld gt hp so g0]), fun q => by rw [q]; exact top_ld gt hp so g0⟩
    have e : sm (fun k => Lq N S (ld N H mul inv S h g) k * mu H (Lq N S) k) H.toNat = sm (fun k => Lq N S h k * mu H (Lq N S) (ld N H mul inv S k g)) H.toNat := by
      rw [← sm_ld gt hp g0 (fun k => Lq N S (ld N H mul inv S h g) k * mu H (Lq N S) k)]
      exact sm_congr (fun k k0 k1 => by (try dsimp only); rw [Lq_ld gt hp h0 ⟨k0, by omega⟩ g0])
    have f : sm (fun k => Lq N S h k * mu H (Lq N S) (ld N H mul inv S k g)) H.toNat = sm (fun k => bi (h = k) * (mu H (Lq N S) (ld N H mul inv S h g) - mu H (Lq N S) h) + Lq N S h k * mu H (Lq N S) k) H.toNat := by
      refine sm_congr (fun k k0 k1 => ?_)
      (try dsimp only)
      rcases Int.lt_trichotomy h k with q | q | q
      · rw [bi_f (by omega), Int.zero_mul, Int.zero_add, ih _ (by omega) k rfl ⟨k0, by omega⟩]
      · rw [bi_t q, ← q, Lq_rf]; omega
      · rw [bi_f (by omega), Lq_lt hp so (by omega) h0 ⟨k0, by omega⟩ q]; omega
    rw [e, f, sm_add (fun k => bi (h = k) * (mu H (Lq N S) (ld N H mul inv S h g) - mu H (Lq N S) h)), sm_dl (g := fun _ => mu H (Lq N S) (ld N H mul inv S h g) - mu H (Lq N S) h) h0.1 (by omega), a] at b
    by_cases q : h = H - 1
    · rw [if_pos q, if_pos (tp.mpr q)] at b
      (try dsimp only at b)
      omega
    · rw [if_neg q, if_neg (fun r => q (tp.mp r))] at b
      (try dsimp only at b)
      omega
theorem mu_co (gt : GT N mul inv) (hp : hpsP N H mul S sz) (so : srtS N H S) (cl : clX N H C mul inv S co fo nu) (h0 : 0 ≤ h ∧ h < H) : mu H (Lq N S) h = mu H (Lq N S) (fo (co h)) := by
  have a := cl.2.1 h h0.1 h0.2
  have f := cl.2.2.1 _ a.1.1 a.1.2
  obtain ⟨x, x0, ex⟩ := cl_ex gt hp cl f.1 h0 f.2
  rw [← ex]
  have := mu_ld gt hp so x0 _ (fo (co h)) rfl f.1
  rw [ex] at this ⊢
  exact this
/-- a sum over heaps, class by class -/
theorem sm_cl (hp : hpsP N H mul S sz) (cl : clX N H C mul inv S co fo nu) (f F : Int → Int) (e : ∀ k, 0 ≤ k → k < H → F k = F (fo (co k))) : sm (fun k => f k * F k) H.toNat = sm (fun d => sm (fun k => bi (co k = d) * f k) H.toNat * F (fo d)) C.toNat := by
  have eh := hp_n hp
  have ec : ((C.toNat : Nat) : Int) = C := Int.toNat_of_nonneg (by have := cl.1; omega)
  rw [sm_fib (c := co) (m := C.toNat) (fun k k0 k1 => by have := (cl.2.1 k k0 (by omega)).1; omega)]
  refine sm_congr (fun d d0 d1 => ?_)
  (try dsimp only)
  rw [← sm_mc]
  refine sm_congr (fun k k0 k1 => ?_)
  (try dsimp only)
  by_cases q : co k = d
  · rw [bi_t q, Int.one_mul, Int.one_mul, e k k0 (by omega), q]
  · rw [bi_f q, Int.zero_mul, Int.zero_mul, Int.zero_mul]
theorem ov_cc (gt : GT N mul inv) (hp : hpsP N H mul S sz) (cl : clX N H C mul inv S co fo nu) (c0 : 0 ≤ c ∧ c < C) : ov N H S co fo c c = 1 := by
  have eh := hp_n hp
  have f := cl.2.2.1 c c0.1 c0.2
  have N1 := gt.1
  unfold ov
  have e : sm (fun k => bi (co k = c) * Lq N S (fo c) k) H.toNat = sm (fun k => bi (fo c = k) * 1) H.toNat := by
    refine sm_congr (fun k k0 k1 => ?_)
    (try dsimp only)
    rw [Int.mul_one]
    by_cases q : fo c = k
    · rw [bi_t q, ← q, bi_t f.2, Lq_rf]; rfl
    · rw [bi_f q]
      by_cases r : co k = c
      · have z : Lq N S (fo c) k = 0 := bi_f (fun w => by
          have a := sub_szl hp (by omega) f.1 (k := k) ⟨k0, by omega⟩ w q
          obtain ⟨x, x0, ex⟩ := cl_ex gt hp cl f.1 (k := k) ⟨k0, by omega⟩ (by rw [f.2, r])
          rw [← ex, ld_sz gt hp f.1 x0] at a
          omega)
        rw [z, Int.mul_zero]
      · rw [bi_f r, Int.zero_mul]
  rw [e]
  exact sm_dl (g := fun _ => 1) f.1.1 (by omega)
theorem ov_lt (gt : GT N mul inv) (hp : hpsP N H mul S sz) (so : srtS N H S) (cl : clX N H C mul inv S co fo nu) (c0 : 0 ≤ c ∧ c < C) (e0 : 0 ≤ e ∧ e < c) : ov N H S co fo c e = 0 := by
  have eh := hp_n hp
  have N1 := gt.1
  have fc := cl.2.2.1 c c0.1 c0.2
  have fe := cl.2.2.1 e e0.1 (by omega)
  have lt := cl.2.2.2.1 e c e0.1 e0.2 c0.2
  refine sm_zz (fun k k0 k1 => ?_)
  (try dsimp only)
  by_cases r : co k = e
  · have z : Lq N S (fo c) k = 0 := bi_f (fun w => by
      have ne : fo c ≠ k := fun q => by
        rw [← q, fc.2] at r
        omega
      have a := sub_szl hp (by omega) fc.1 (k := k) ⟨k0, by omega⟩ w ne
      obtain ⟨x, x0, ex⟩ := cl_ex gt hp cl fe.1 (k := k) ⟨k0, by omega⟩ (by rw [fe.2, r])
      have b := ld_sz gt hp fe.1 x0
      rw [ex] at b
      have d := srt_sz hp so fe.1.1 (show fo e ≤ fo c by omega) fc.1.2
      omega)
    rw [z, Int.mul_zero]
  · rw [bi_f r, Int.zero_mul]
theorem fo_top (gt : GT N mul inv) (hp : hpsP N H mul S sz) (so : srtS N H S) (cl : clX N H C mul inv S co fo nu) : fo (C - 1) = H - 1 ∧ co (H - 1) = C - 1 := by
  have h1 := hp.1
  have a := cl.2.1 (H - 1) (by omega) (by omega)
  have f := cl.2.2.1 _ a.1.1 a.1.2
  obtain ⟨x, x0, ex⟩ := cl_ex gt hp cl (h := H - 1) (by omega) f.1 f.2.symm
  rw [top_ld gt hp so x0] at ex
  have e : co (H - 1) = C - 1 := by
    apply Classical.byContradiction
    intro ne
    have l := cl.2.2.2.1 (co (H - 1)) (C - 1) a.1.1 (by omega) (by omega)
    have := (cl.2.2.1 (C - 1) (by omega) (by omega)).1.2
    omega
  exact ⟨by rw [← e]; exact ex.symm, e⟩
/-- the sign of a class's first heap, by the classes over it -/
theorem mu_cls (gt : GT N mul inv) (hp : hpsP N H mul S sz) (so : srtS N H S) (cl : clX N H C mul inv S co fo nu) (c0 : 0 ≤ c ∧ c < C) : mu H (Lq N S) (fo c) = (if c = C - 1 then 1 else 0) - sm (fun e => if c < e then ov N H S co fo c e * mu H (Lq N S) (fo e) else 0) C.toNat := by
  have ec : ((C.toNat : Nat) : Int) = C := Int.toNat_of_nonneg (by have := cl.1; omega)
  have f := cl.2.2.1 c c0.1 c0.2
  have N1 := gt.1
  have a := mu_all hp so (by omega) f.1
  have s := sm_cl hp cl (fun k => Lq N S (fo c) k) (mu H (Lq N S)) (fun k k0 k1 => mu_co gt hp so cl ⟨k0, k1⟩)
  rw [s] at a
  have e : sm (fun d => sm (fun k => bi (co k = d) * Lq N S (fo c) k) H.toNat * mu H (Lq N S) (fo d)) C.toNat = sm (fun d => bi (c = d) * mu H (Lq N S) (fo d) + (if c < d then ov N H S co fo c d * mu H (Lq N S) (fo d) else 0)) C.toNat := by
    refine sm_congr (fun d d0 d1 => ?_)
    show ov N H S co fo c d * mu H (Lq N S) (fo d) = _
    rcases Int.lt_trichotomy c d with q | q | q
    · rw [if_pos q, bi_f (by omega), Int.zero_mul, Int.zero_add]
    · rw [if_neg (by omega), bi_t q, ← q, ov_cc gt hp cl c0]; omega
    · rw [if_neg (by omega), bi_f (by omega), ov_lt gt hp so cl c0 ⟨d0, q⟩]; omega
  rw [e, sm_add (fun d => bi (c = d) * mu H (Lq N S) (fo d)), sm_dl (g := fun d => mu H (Lq N S) (fo d)) c0.1 (by omega)] at a
  have t := fo_top gt hp so cl
  by_cases q : c = C - 1
  · rw [if_pos q]
    rw [if_pos (by rw [q]; exact t.1)] at a
    (try dsimp only at a)
    omega
  · rw [if_neg q]
    have : fo c ≠ H - 1 := fun r => q (by rw [← f.2, r, t.2])
    rw [if_neg this] at a
    (try dsimp only at a)
    omega
end
