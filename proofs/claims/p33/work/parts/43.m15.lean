section
variable {d : Nat} {G : List gS} {R V : gV} {M : Nat}
/-- nothing that the group and its heaps rest on is written -/
abbrev qW (M a : Nat) (i : Int) : Prop := (a = M ∧ (i = 0 ∨ i = 10 ∨ i = 26 ∨ i = 27 ∨ i = 32 ∨ i = 35 ∨ i = 37)) ∨ (M + 1 ≤ a ∧ a ≤ M + 3) ∨ a = M + 7 ∨ a = M + 8 ∨ (a = M + 9 ∧ 36000 ≤ i) ∨ (a = M + 10 ∧ i = 300) ∨ a = M + 11 ∨ a = M + 12  ∨ (M + 19 ≤ a ∧ a ≤ M + 35)
def gF (V V' : gV) (M : Nat) : Prop := ∀ a i, ¬ qW M a i → V' a i = V a i
/-- nothing but what calls that ask may write -/
def qF (V V' : gV) (M : Nat) : Prop := gF V V' M ∧ (∀ a i, M + 1 ≤ a → a ≤ M + 3 → V' a i = V a i) ∧ V' M 35 = V M 35 ∧ ∀ a i, (M + 27 ≤ a ∨ (a = M ∧ i = 37)) → a ≤ M + 35 → V' a i = V a i
theorem qF_refl : qF V V M := ⟨fun _ _ _ => rfl, fun _ _ _ _ => rfl, rfl, fun _ _ _ _ => rfl⟩
theorem qF_trans {V' V'' : gV} (h1 : qF V V' M) (h2 : qF V' V'' M) : qF V V'' M := ⟨fun a i q => (h2.1 a i q).trans (h1.1 a i q), fun a i a0 a1 => (h2.2.1 a i a0 a1).trans (h1.2.1 a i a0 a1), h2.2.2.1.trans h1.2.2.1, fun a i a0 a1 => (h2.2.2.2 a i a0 a1).trans (h1.2.2.2 a i a0 a1)⟩
theorem qF_wr {V' : gV} (h : qF V V' M) {a : Nat} {i v : Int} (ha : qW M a i) (ha2 : ¬ (M + 1 ≤ a ∧ a ≤ M + 3)) (ha3 : ¬ (a = M ∧ i = 35)) (ha4 : ¬ ((M + 27 ≤ a ∨ (a = M ∧ i = 37)) ∧ a ≤ M + 35)) : qF V (wr V' a i v) M := ⟨fun b j q => by rw [wr_ne (fun z => q (by rw [z.1, z.2]; exact ha))]; exact h.1 b j q, fun b j b0 b1 => by rw [wr_a (by omega)]; exact h.2.1 b j b0 b1, by rw [wr_ne (fun z => ha3 ⟨z.1.symm, z.2.symm⟩)]; exact h.2.2.1, fun b j b0 b1 => by rw [wr_ne (by omega)]; exact h.2.2.2 b j b0 b1⟩
theorem stP_q {V' : gV} (gt : GT (V M 5) (mMul V M) (mInv V M)) (hN : V M 5 ≤ 120) (q : gF V V' M) (h : stP V V M) : stP V' V' M := by
  have e5 : V' M 5 = V M 5 := q _ _ (by omega)
  have e12 : V' M 12 = V M 12 := q _ _ (by omega)
  have e13 : V' M 13 = V M 13 := q _ _ (by omega)
  have em : mMul V' M = mMul V M := funext (fun s => funext (fun t => q _ _ (by omega)))
  have ei : mInv V' M = mInv V M := funext (fun s => q _ _ (by omega))
  obtain ⟨⟨h1, h2, h3, h4, h5, h6, h7, h8⟩, h9, h10⟩ := h
  have H3 := h2.2.1
  have rq : ∀ k, 0 ≤ k → k < V M 12 → req (V M 5) (mHas V M k) (mHas V' M k) := fun k k0 k1 t t0 t1 => (q _ _ (by omega)).symm
  have sS : ∀ k, 0 ≤ k → k < V M 12 → SM (V M 5) (mMul V M) (mHas V M k) := fun k k0 k1 => (h2.2.2.1 k k0 k1).1
  refine ⟨⟨fun _ _ _ _ _ _ _ _ _ _ _ => rfl, ?_, ?_, ?_, ?_, ?_, ?_, ?_⟩, ?_, ?_⟩
  · rw [e5, e12, em]
    exact hps_congr gt rq (fun k k0 k1 => (q _ _ (by omega)).symm) h2
  · rw [e5, e12]
    intro a b a0 a1 b0 b1
    unfold ldP
    rw [e5, e12, em, ei, q (M + 13) (120 * a + b) (by omega)]
    have l := h3 a b a0 a1 b0 b1
    refine ⟨l.1, l.2.1, fun t t0 t1 => ?_⟩
    rw [← cj_congr gt (h2.2.2.1 a a0 a1).1.1 (rq a a0 a1) b t t0 t1, ← l.2.2 t t0 t1]
    exact (rq _ l.1 l.2.1 t t0 t1).symm
  · rw [e13]; exact h4
  · rw [e13, e12]; exact h5
  · rw [e12, e13]
    intro a a0 a1
    rw [q (M + 14) a (by omega)]; exact h6 a a0 a1
  · rw [e12, e13]
    intro a a0 a1
    rw [q (M + 15) a (by omega)]; exact h7 a a0 a1
  · refine ⟨by rw [e5, em, ei, e13]; exact h8.1, by rw [e5, e12]; exact srt_c rq h8.2.1, ?_⟩
    have f : ∀ b, M + 14 ≤ b → b ≤ M + 16 → (fun x => V' b x) = fun x => V b x := fun b q1 q2 => funext (fun x => q _ _ (by omega))
    rw [e5, e12, e13, em, ei, f (M + 14) (by omega) (by omega), f (M + 15) (by omega) (by omega), f (M + 16) (by omega) (by omega)]
    exact cl_c gt sS rq h8.2.2
  · rw [e13]
    intro a b a0 a1 b0 b1
    unfold tbP
    have w := h9 a b a0 a1 b0 b1
    rw [q (M + 18) _ (by omega), e5, em, ei]
    refine ⟨w.1, w.2.1, w.2.2.1, w.2.2.2.trans ?_⟩
    exact tbx_c gt sS rq (h7 a a0 a1) (h7 b b0 b1) (q _ _ (by omega)) (q _ _ (by omega))
  · rw [e12]
    intro a a0 a1
    have w := h10 a a0 a1
    unfold sgX at w ⊢
    rw [q (M + 17) _ (by omega), e12, e5, w]
    exact congrArg jw (mu_S rq a0 a1)
theorem GC_N (h : GC V M) : GT (V M 5) (mMul V M) (mInv V M) ∧ V M 5 ≤ 120 := ⟨imI_GT h.1, h.1.1.2.2.2.1⟩
theorem GC_q {V' : gV} (q : gF V V' M) (h : GC V M) : GC V' M := ⟨imI_congr (q _ _ (by omega)) (q _ _ (by omega)) (fun i => q _ _ (by omega)) (fun i => q _ _ (by omega)) (fun i => q _ _ (by omega)) h.1, stP_q (GC_N h).1 (GC_N h).2 q h.2⟩
/-- an image that was kept -/
def kOK (f : Int → Int) (n N r : Int) : Prop := GR f n N ∧ srt f n N ∧ few f n N ∧ 0 ≤ r ∧ clsB f n N r
def kpI (V : gV) (M : Nat) : Prop := ∀ k, 0 ≤ k → k < 3 → V (M + 28) k = 1 → kOK (fun i => V (M + 31) (960 * k + i)) (V (M + 29) k) (V (M + 30) k) (V (M + 34) k)
/-- what the model keeps to between calls -/
def MI (V : gV) (M : Nat) : Prop := shOK V M ∧ GC V M ∧ (0 ≤ V M 35 ∧ V M 35 ≤ V M 13) ∧ kpI V M
theorem kpI_congr {V' : gV} (h : ∀ a i, M + 28 ≤ a → a ≤ M + 34 → V' a i = V a i) (k : kpI V M) : kpI V' M := by
  intro j j0 j1 j2
  have e : (fun i => V' (M + 31) (960 * j + i)) = fun i => V (M + 31) (960 * j + i) := funext (fun i => h _ _ (by omega) (by omega))
  rw [e, h (M + 29) j (by omega) (by omega), h (M + 30) j (by omega) (by omega), h (M + 34) j (by omega) (by omega)]
  exact k j j0 j1 (by rw [← h (M + 28) j (by omega) (by omega)]; exact j2)
theorem MI_g {V' : gV} (q : gF V V' M) (hs : shOK V' M) (h35 : V' M 35 = V M 35) (hk : ∀ a i, M + 28 ≤ a → a ≤ M + 35 → V' a i = V a i) (h : MI V M) : MI V' M := by
  obtain ⟨h1, h2, h3, h4⟩ := h
  exact ⟨hs, GC_q q h2, by rw [h35, q M 13 (by omega)]; exact h3, kpI_congr (fun a i a0 a1 => hk a i a0 (by omega)) h4⟩
theorem MI_q {V' : gV} (q : qF V V' M) (h : MI V M) : MI V' M := MI_g q.1 (fun s s0 s1 => by rw [q.2.1 _ _ (by omega) (by omega)]; exact h.1 s s0 s1) q.2.2.1 (fun a i a0 a1 => q.2.2.2 a i (by omega) a1) h
/-- what a call may do: it keeps to its own, the sheets' lengths and what is kept -/
def mP (V V' : gV) (M : Nat) : Prop := MI V' M ∧ (∀ a i, ¬ (M ≤ a ∧ a ≤ M + 35) → V' a i = V a i) ∧ (∀ a i, M + 1 ≤ a → a ≤ M + 3 → V' a i = V a i) ∧ (∀ i, V' (M + 28) i = V (M + 28) i)
theorem mP_q {V' : gV} (h : MI V M) (q : qF V V' M) : mP V V' M := ⟨MI_q q h, fun a i z => q.1 a i (by omega), q.2.1, fun i => q.2.2.2 _ _ (by omega) (by omega)⟩
/-- the rows of turns, as they are and as they are kept, stay -/
def mK (V V' : gV) (M : Nat) : Prop := V' M 4 = V M 4 ∧ V' M 5 = V M 5 ∧ (∀ i, V' (M + 4) i = V (M + 4) i) ∧ (∀ a i, M + 29 ≤ a → a ≤ M + 31 → V' a i = V a i)
theorem mK_q {V' : gV} (q : qF V V' M) : mK V V' M := ⟨q.1 _ _ (by omega), q.1 _ _ (by omega), fun i => q.1 _ _ (by omega), fun a i a0 a1 => q.2.2.2 a i (by omega) (by omega)⟩
/-- the row of numbers, what was checked last, and the kept rows stay -/
abbrev rwC (M a : Nat) (i : Int) : Prop := (a = M ∧ (i = 35 ∨ i = 37)) ∨ a = M + 27 ∨ a = M + 34 ∨ a = M + 35
def mR (V V' : gV) (M : Nat) : Prop := ∀ a i, rwC M a i → V' a i = V a i
theorem mR_q {V' : gV} (q : qF V V' M) : mR V V' M := by
  intro a i z
  by_cases w : a = M ∧ i = 35
  · rw [w.1, w.2]; exact q.2.2.1
  · exact q.2.2.2 a i (by omega) (by omega)
def mQ (V V' : gV) (M : Nat) : Prop := mP V V' M ∧ mK V V' M ∧ mR V V' M
theorem mQ_q {V' : gV} (h : MI V M) (q : qF V V' M) : mQ V V' M := ⟨mP_q h q, mK_q q, mR_q q⟩
theorem ends_c (ly : lay8 G R M) {c : Int} (hc : i32 c) : cwv 1 (fun r V' => ∃ v, r = some (0, v) ∧ (v = c ∧ ∀ a i, ¬ (a = M ∧ i = 0) → V' a i = V a i)) 160 [(4, (M : Int)), (0, c)] G R V :=
  c_X8_ends (t_X8_ends_0 ly ⟨hc, fun _ => ⟨c, rfl, rfl, fun a i q => wr_ne q⟩, fun _ => ⟨c, rfl, rfl, fun a i q => wr_ne q⟩⟩)
theorem endsLong_c (ly : lay8 G R M) {c : Int} (hc : i64 c) : cwv 1 (fun r V' => ∃ v, r = some (2, v) ∧ (v = c ∧ ∀ a i, ¬ (a = M ∧ i = 0) → V' a i = V a i)) 161 [(4, (M : Int)), (2, c)] G R V :=
  c_X8_endsLong (t_X8_endsLong_0 ly ⟨hc, fun _ => ⟨c, rfl, rfl, fun a i q => wr_ne q⟩, fun _ => ⟨c, rfl, rfl, fun a i q => wr_ne q⟩⟩)
theorem q_0 {V' : gV} (h : ∀ a i, ¬ (a = M ∧ i = 0) → V' a i = V a i) : qF V V' M := ⟨fun a i q => h a i (by omega), fun a i a0 a1 => h a i (by omega), h _ _ (by omega), fun a i a0 a1 => h a i (by omega)⟩
/-- an end that only answers -/
theorem ends_q (ly : lay8 G R M) {c : Int} (hc : i32 c) {d : Nat} (hd : 1 ≤ d) {X : Int → gV → Prop} (x : ∀ V', qF V V' M → X c V') : cwv d (fun r V' => ∃ v, r = some (0, v) ∧ X v V') 160 [(4, (M : Int)), (0, c)] G R V := cwI_u hd (ends_c ly hc) (fun v V' h => by rw [h.1]; exact x V' (q_0 h.2))
def shA (s sort n : Int) : Int := if ¬ (0 ≤ s ∧ s ≤ 3) ∨ ¬ (0 ≤ sort ∧ sort ≤ 2) ∨ 8 < n then -1 else if n < 0 then -4 else n
/-- what the three rows of sheets become -/
def shM (V : gV) (M : Nat) (s sort n : Int) (a : Nat) (i : Int) : Int :=
  if ¬ ((0 ≤ s ∧ s ≤ 3) ∧ (0 ≤ sort ∧ sort ≤ 2) ∧ n ≤ 8) then V a i
  else if a = M + 2 ∧ i = s then (if n < 0 then -1 else n)
  else if n < 0 then V a i
  else if a = M + 1 ∧ i = s then sort
  else if a = M + 3 ∧ 8 * s ≤ i ∧ i < 8 * s + 8 then 0
  else V a i
def shQ (V : gV) (M : Nat) (s sort n : Int) (V' : gV) : Prop := MI V' M ∧ (∀ a i, ¬ (M ≤ a ∧ a ≤ M + 35) → V' a i = V a i) ∧ (∀ i, V' (M + 28) i = V (M + 28) i) ∧ (∀ a i, M + 1 ≤ a → a ≤ M + 3 → V' a i = shM V M s sort n a i) ∧ mK V V' M ∧ mR V V' M
theorem sheet_c (ly : lay8 G R M) (hM : MI V M) {s sort n : Int} (h1 : i32 s) (h2 : i32 sort) (h3 : i32 n) : cwv 2 (fun r V' => ∃ v, r = some (0, v) ∧ (v = shA s sort n ∧ shQ V M s sort n V')) 162 [(4, (M : Int)), (0, s), (0, sort), (0, n)] G R V := by
  have keep : ∀ V', (∀ a i, ¬ (a = M ∧ i = 0) → ¬ (M + 1 ≤ a ∧ a ≤ M + 3) → V' a i = V a i) → (∀ a i, M + 1 ≤ a → a ≤ M + 3 → V' a i = shM V M s sort n a i) → shQ V M s sort n V' := by
    intro V' e sz
    refine ⟨MI_g (fun a i q => e a i (by omega) (by omega)) (fun x x0 x1 => ?_) (e _ _ (by omega) (by omega)) (fun a i a0 a1 => e a i (by omega) (by omega)) hM, fun a i q => e a i (by omega) (by omega), fun i => e _ _ (by omega) (by omega), sz, ⟨e _ _ (by omega) (by omega), e _ _ (by omega) (by omega), fun i => e _ _ (by omega) (by omega), fun a i a0 a1 => e a i (by omega) (by omega)⟩, fun a i q => e a i (by omega) (by omega)⟩
    rw [sz _ _ (by omega) (by omega)]
    have := hM.1 x x0 x1
    unfold shM
    split
    · exact this
    · split
      · split <;> omega
      · split
        · exact this
        · split
          · omega
          · split
            · omega
            · exact this
  have ans : ∀ (c : Int) (Va : gV), i32 c → c = shA s sort n → (∀ a i, ¬ (a = M ∧ i = 0) → ¬ (M + 1 ≤ a ∧ a ≤ M + 3) → Va a i = V a i) → (∀ a i, M + 1 ≤ a → a ≤ M + 3 → Va a i = shM V M s sort n a i) → cwv 1 (fun r V' => ∃ v6, r = some (0, v6) ∧ ∃ v, some ((0 : Nat), v6) = some (0, v) ∧ (v = shA s sort n ∧ shQ V M s sort n V')) 160 [(4, (M : Int)), (0, c)] G R Va := by
    intro c Va hc ec e sz
    refine cwI_u (Nat.le_refl _) (ends_c ly hc) (fun v V' h => ⟨v, rfl, by rw [h.1]; exact ec, keep V' (fun a i q1 q2 => ?_) (fun a i a0 a1 => ?_)⟩)
    · rw [h.2 a i q1]; exact e a i q1 q2
    · rw [h.2 _ _ (by omega)]; exact sz a i a0 a1
  have no : ∀ Va : gV, (¬ (0 ≤ s ∧ s ≤ 3) ∨ ¬ (0 ≤ sort ∧ sort ≤ 2) ∨ 8 < n) → Va = V → cwv 1 (fun r V' => ∃ v6, r = some (0, v6) ∧ ∃ v, some ((0 : Nat), v6) = some (0, v) ∧ (v = shA s sort n ∧ shQ V M s sort n V')) 160 [(4, (M : Int)), (0, -1)] G R Va := by
    intro Va hn hV
    subst hV
    exact ans (-1) _ ⟨by omega, by omega⟩ (by unfold shA; rw [if_pos hn]) (fun _ _ _ _ => rfl) (fun a i _ _ => by unfold shM; rw [if_pos (by omega)])
  refine c_X8_sheet (t_X8_sheet_0 ly ⟨h1, cpI_u (Nat.le_refl _) (in_c (i32_64 h1) ⟨by omega, by omega⟩ ⟨by omega, by omega⟩) ⟨bi32 _, fun z => no _ (Or.inl (bi_0.mp z)) rfl, fun z => ⟨h2, cpI_u (Nat.le_refl _) (in_c (i32_64 h2) ⟨by omega, by omega⟩ ⟨by omega, by omega⟩) ⟨bi32 _, fun z2 => no _ (Or.inr (Or.inl (bi_0.mp z2))) rfl, fun z2 => ⟨h3, fun z3 => ?_, fun z3 => no _ (Or.inr (Or.inr z3)) rfl⟩⟩⟩⟩⟩)
  have s0 : 0 ≤ s ∧ s ≤ 3 := by
    rcases bi_01 (0 ≤ s ∧ s ≤ 3) with q | q
    · exact absurd q z
    · exact bi_1.mp q
  have t0 : 0 ≤ sort ∧ sort ≤ 2 := by
    rcases bi_01 (0 ≤ sort ∧ sort ≤ 2) with q | q
    · exact absurd q z2
    · exact bi_1.mp q
  have ok : ¬ ¬ ((0 ≤ s ∧ s ≤ 3) ∧ (0 ≤ sort ∧ sort ≤ 2) ∧ n ≤ 8) := by omega
  refine ⟨by omega, fun z4 => ?_, fun z4 => ?_⟩
  · refine loop1 (f := fun x => [some (4, (M : Int)), some (0, s), none, some (0, n), some (0, x)]) (fun x Va => 0 ≤ x ∧ x ≤ 8 ∧ (∀ a i, ¬ (M + 1 ≤ a ∧ a ≤ M + 3) → Va a i = V a i) ∧ (∀ a i, M + 1 ≤ a → a ≤ M + 3 → Va a i = if a = M + 2 ∧ i = s then n else if a = M + 1 ∧ i = s then sort else if a = M + 3 ∧ 8 * s ≤ i ∧ i < 8 * s + x then 0 else V a i)) (fun x _ => (8 - x).toNat) (fun x Va hx ih => ?_) 0 _ ⟨by omega, by omega, fun a i q => ?_, fun a i a0 a1 => ?_⟩
    · obtain ⟨x0, x1, e, sz⟩ := hx
      refine t_X8_sheet_71 ly ⟨by omega, fun c => ans n Va h3 ?_ (fun a i _ q => e a i q) (fun a i a0 a1 => ?_), fun c => ⟨by omega, by omega, by omega, by omega, ih (x + 1) _ ⟨by omega, by omega, fun a i q => ?_, fun a i a0 a1 => ?_⟩ (by omega)⟩⟩
      · unfold shA
        rw [if_neg (by omega), if_neg z4]
      · have : x = 8 := by omega
        subst this
        rw [sz a i a0 a1]
        unfold shM
        rw [if_neg ok, if_neg z4, if_neg z4]
      · rw [wr_a (by omega)]; exact e a i q
      · by_cases q : a = M + 3 ∧ i = 8 * s + x
        · rw [q.1, q.2, wr_same, if_neg (by omega), if_neg (by omega), if_pos (by omega)]
        · rw [wr_ne q, sz a i a0 a1]
          by_cases q2 : a = M + 2 ∧ i = s
          · rw [if_pos q2, if_pos q2]
          · rw [if_neg q2, if_neg q2]
            by_cases q3 : a = M + 1 ∧ i = s
            · rw [if_pos q3, if_pos q3]
            · rw [if_neg q3, if_neg q3]
              by_cases q4 : a = M + 3 ∧ 8 * s ≤ i ∧ i < 8 * s + x
              · rw [if_pos q4, if_pos (by omega)]
              · rw [if_neg q4, if_neg (by omega)]
    · rw [wr_a (by omega), wr_a (by omega), wr_a (by omega)]
    · by_cases q2 : a = M + 2 ∧ i = s
      · rw [if_pos q2, q2.1, q2.2, wr_same]
      · rw [if_neg q2, wr_ne q2]
        by_cases q3 : a = M + 1 ∧ i = s
        · rw [if_pos q3, q3.1, q3.2, wr_same]
        · rw [if_neg q3, wr_ne q3, wr_ne q2, if_neg (by omega)]
  · refine ans (-4) _ ⟨by omega, by omega⟩ ?_ (fun a i _ q => wr_a (by omega)) (fun a i a0 a1 => ?_)
    · unfold shA
      rw [if_neg (by omega), if_pos z4]
    · unfold shM
      rw [if_neg ok]
      by_cases q2 : a = M + 2 ∧ i = s
      · rw [if_pos q2, q2.1, q2.2, wr_same, if_pos z4]
      · rw [if_neg q2, wr_ne q2, if_pos z4]
def wrA (V : gV) (M : Nat) (s i : Int) : Int := if ¬ (0 ≤ s ∧ s ≤ 3) then -1 else if V (M + 2) s = -1 then -2 else if ¬ (0 ≤ i ∧ i ≤ V (M + 2) s - 1) then -3 else 0
def wrV (sort v : Int) : Int := if sort = 0 then ki2b v else if sort = 1 then ki2s v else v
def wrM (V : gV) (M : Nat) (s i v : Int) (a : Nat) (j : Int) : Int := if wrA V M s i = 0 ∧ a = M + 3 ∧ j = 8 * s + i then wrV (V (M + 1) s) v else V a j
def wrQ (V : gV) (M : Nat) (s i v : Int) (V' : gV) : Prop := MI V' M ∧ (∀ a i, ¬ (M ≤ a ∧ a ≤ M + 35) → V' a i = V a i) ∧ (∀ i, V' (M + 28) i = V (M + 28) i) ∧ (∀ a j, M + 1 ≤ a → a ≤ M + 3 → V' a j = wrM V M s i v a j) ∧ mK V V' M ∧ mR V V' M
theorem write_c (ly : lay8 G R M) (hM : MI V M) {s i v : Int} (h1 : i32 s) (h2 : i32 i) (h3 : i32 v) : cwv 2 (fun r V' => ∃ w, r = some (0, w) ∧ (w = wrA V M s i ∧ wrQ V M s i v V')) 163 [(4, (M : Int)), (0, s), (0, i), (0, v)] G R V := by
  have keep : ∀ V', (∀ a i, ¬ (a = M ∧ i = 0) → a ≠ M + 3 → V' a i = V a i) → (∀ j, V' (M + 3) j = wrM V M s i v (M + 3) j) → wrQ V M s i v V' := by
    intro V' e sz
    refine ⟨MI_g (fun a i q => e a i (by omega) (by omega)) (fun x x0 x1 => by rw [e _ _ (by omega) (by omega)]; exact hM.1 x x0 x1) (e _ _ (by omega) (by omega)) (fun a i a0 a1 => e a i (by omega) (by omega)) hM, fun a i q => e a i (by omega) (by omega), fun i => e _ _ (by omega) (by omega), fun a j a0 a1 => ?_, ⟨e _ _ (by omega) (by omega), e _ _ (by omega) (by omega), fun i => e _ _ (by omega) (by omega), fun a i a0 a1 => e a i (by omega) (by omega)⟩, fun a i q => e a i (by omega) (by omega)⟩
    by_cases q : a = M + 3
    · rw [q]; exact sz j
    · rw [e a j (by omega) q]
      unfold wrM
      rw [if_neg (by omega)]
  have ans : ∀ (c : Int) (Va : gV), i32 c → c = wrA V M s i → (∀ a i, a ≠ M + 3 → Va a i = V a i) → (∀ j, Va (M + 3) j = wrM V M s i v (M + 3) j) → cwv 1 (fun r V' => ∃ v6, r = some (0, v6) ∧ ∃ w, some ((0 : Nat), v6) = some (0, w) ∧ (w = wrA V M s i ∧ wrQ V M s i v V')) 160 [(4, (M : Int)), (0, c)] G R Va := fun c Va hc ec e sz => cwI_u (Nat.le_refl _) (ends_c ly hc) (fun w V' h => ⟨w, rfl, by rw [h.1]; exact ec, keep V' (fun a i q1 q2 => by rw [h.2 a i q1]; exact e a i q2) (fun j => by rw [h.2 _ _ (by omega)]; exact sz j)⟩)
  have no : ∀ c, i32 c → c = wrA V M s i → ¬ c = 0 → cwv 1 (fun r V' => ∃ v6, r = some (0, v6) ∧ ∃ w, some ((0 : Nat), v6) = some (0, w) ∧ (w = wrA V M s i ∧ wrQ V M s i v V')) 160 [(4, (M : Int)), (0, c)] G R V := fun c hc ec nc => ans c V hc ec (fun _ _ _ => rfl) (fun j => by unfold wrM; rw [if_neg (fun q => nc (by rw [ec]; exact q.1))])
  refine c_X8_write (t_X8_write_0 ly ⟨h1, cpI_u (Nat.le_refl _) (in_c (i32_64 h1) ⟨by omega, by omega⟩ ⟨by omega, by omega⟩) ⟨bi32 _, fun z => ?_, fun z => no (-1) ⟨by omega, by omega⟩ (by unfold wrA; rw [if_pos (bi_0.mp z)]) (by omega)⟩⟩)
  have s0 : 0 ≤ s ∧ s ≤ 3 := by
    rcases bi_01 (0 ≤ s ∧ s ≤ 3) with q | q
    · exact absurd q z
    · exact bi_1.mp q
  have sz := hM.1 s s0.1 (by omega)
  refine ⟨by omega, fun _ => ⟨fun z2 => ⟨h2, by omega, cpI_u (Nat.le_refl _) (in_c (i32_64 h2) ⟨by omega, by omega⟩ ⟨by omega, by omega⟩) ⟨bi32 _, fun z3 => ?_, fun z3 => no (-3) ⟨by omega, by omega⟩ (by unfold wrA; rw [if_neg (fun q => q s0), if_neg z2, if_pos (bi_0.mp z3)]) (by omega)⟩⟩, fun z2 => no (-2) ⟨by omega, by omega⟩ (by unfold wrA; rw [if_neg (fun q => q s0), if_pos z2]) (by omega)⟩⟩
  have i0 : 0 ≤ i ∧ i ≤ V (M + 2) s - 1 := by
    rcases bi_01 (0 ≤ i ∧ i ≤ V (M + 2) s - 1) with q | q
    · exact absurd q z3
    · exact bi_1.mp q
  have e0 : (0 : Int) = wrA V M s i := by unfold wrA; rw [if_neg (fun q => q s0), if_neg z2, if_neg (fun q => q i0)]
  have go : ∀ x, x = wrV (V (M + 1) s) v → cwv 1 (fun r V' => ∃ v6, r = some (0, v6) ∧ ∃ w, some ((0 : Nat), v6) = some (0, w) ∧ (w = wrA V M s i ∧ wrQ V M s i v V')) 160 [(4, (M : Int)), (0, 0)] G R (wr V (M + 3) (8 * s + i) x) := by
    intro x hx
    refine ans 0 _ ⟨by omega, by omega⟩ e0 (fun a i q => wr_a q) (fun j => ?_)
    unfold wrM
    by_cases q : j = 8 * s + i
    · rw [q, wr_same, if_pos ⟨e0.symm, rfl, rfl⟩]; exact hx
    · rw [wr_i q, if_neg (fun w => q w.2.2)]
  exact ⟨by omega, by omega, fun _ => ⟨fun y1 => ⟨fun y2 => ⟨by omega, h3, go _ (by unfold wrV; rw [if_neg y1, if_neg y2])⟩, fun y2 => ⟨by omega, go _ (by unfold wrV; rw [if_neg y1, if_pos y2])⟩⟩, fun y1 => ⟨by omega, go _ (by unfold wrV; rw [if_pos y1])⟩⟩⟩
theorem count_c (ly : lay8 G R M) (hM : MI V M) {w : Int} (h1 : i32 w) : cwv 1 (fun r V' => ∃ v, r = some (0, v) ∧ mQ V V' M) 182 [(4, (M : Int)), (0, w)] G R V := by
  refine c_X8_count (t_X8_count_0 ly ⟨h1, fun _ => ⟨_, rfl, mQ_q hM qF_refl⟩, fun _ _ => ⟨_, rfl, mQ_q hM qF_refl⟩, fun _ _ => ⟨_, rfl, mQ_q hM qF_refl⟩, fun _ _ => ⟨_, rfl, mQ_q hM qF_refl⟩, fun _ _ => ⟨_, rfl, mQ_q hM qF_refl⟩, fun _ => ?_, fun _ _ => ⟨_, rfl, mQ_q hM qF_refl⟩⟩)
  refine pool2 (f := fun x y => [some (4, (M : Int)), none, some (0, x), some (0, y)]) (fun x y => 0 ≤ y ∧ y ≤ 8 ∧ 0 ≤ x ∧ x ≤ y) (fun _ y => (8 - y).toNat) (fun x y hx ih => ?_) 0 0 (by omega)
  obtain ⟨y0, y1, x0, x1⟩ := hx
  exact t_X8_count_64 ly ⟨by omega, fun _ => ⟨_, rfl, mQ_q hM qF_refl⟩, fun c => ⟨by omega, fun _ => ⟨fun _ => ⟨by omega, by omega, ih _ (y + 1) (by omega) (by omega)⟩, fun _ => ⟨by omega, by omega, ih _ (y + 1) (by omega) (by omega)⟩⟩⟩⟩
/-- all else but the model's group, acts and row -/
def wF (V V' : gV) (M : Nat) : Prop := ∀ a i, a ≠ M → ¬ (M + 4 ≤ a ∧ a ≤ M + 27) → V' a i = V a i
theorem wF_trans {V' V'' : gV} (h1 : wF V V' M) (h2 : wF V' V'' M) : wF V V'' M := fun a i q1 q2 => (h2 a i q1 q2).trans (h1 a i q1 q2)
theorem mP_w {V' : gV} (h : MI V M) (g : GC V' M) (r : 0 ≤ V' M 35 ∧ V' M 35 ≤ V' M 13) (w : wF V V' M) : mP V V' M := ⟨⟨fun s s0 s1 => by rw [w _ _ (by omega) (by omega)]; exact h.1 s s0 s1, g, r, kpI_congr (fun a i a0 a1 => w a i (by omega) (by omega)) h.2.2.2⟩, fun a i q => w a i (by omega) (by omega), fun a i a0 a1 => w _ _ (by omega) (by omega), fun i => w _ _ (by omega) (by omega)⟩
end
