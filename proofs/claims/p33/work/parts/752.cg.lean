/-! the class reads its sheets, and its group answers so -/
theorem and1 (a : Int) : kand a 1 = 0 ∨ kand a 1 = 1 := by
  unfold kand
  have h1 : (Int32.ofInt a &&& Int32.ofInt 1).toInt = (((Int32.ofInt a).toBitVec &&& 1#32).toNat : Int) := by
    have e : (Int32.ofInt a &&& Int32.ofInt 1).toInt = ((Int32.ofInt a).toBitVec &&& 1#32).toInt := rfl
    rw [e, BitVec.toInt_eq_toNat_of_lt]
    have : ((Int32.ofInt a).toBitVec &&& 1#32).toNat ≤ 1 := by rw [BitVec.toNat_and]; exact Nat.and_le_right
    omega
  have h2 : ((Int32.ofInt a).toBitVec &&& 1#32).toNat ≤ 1 := by rw [BitVec.toNat_and]; exact Nat.and_le_right
  omega
theorem e8n_s {k : Nat} (h : k ≤ 6) : e8n (k + 1) = 8 * e8n k := by
  have : k = 0 ∨ k = 1 ∨ k = 2 ∨ k = 3 ∨ k = 4 ∨ k = 5 ∨ k = 6 := by omega
  rcases this with q | q | q | q | q | q | q <;> subst q <;> decide
theorem e8n_b (k : Nat) : e8n k ≤ 2097152 := by
  unfold e8n
  repeat' split <;> omega
theorem startWith_x {G : List gS} {R V : gV} {T : gT} {b g x : Nat} {K : Int} (u : bT G R T b) (uw : bW T b) (th : TH T V) (hx : x < b ∨ b + 1 < x) (hK : V x 1 = K) : cw 1 (fun r G' R' V' => r = none ∧ G' = G ∧ R' = wr R b 0 (g : Int) ∧ TH T V' ∧ V' x 1 = K ∧ V' b 3 = 0) 17 [(4, (b : Int)), (4, (g : Int))] G R V := by
  refine c_X1_startWith (t_X1_startWith_0 ⟨ly1_o u.ly, ?_⟩)
  have t1 : TH T (wr V b 3 0) := TH_wr th (uw.1 _ (by omega) (by omega))
  refine loop1g (f := fun a => [some (4, (b : Int)), none, some (0, a)]) (Inv := fun a V => (TH T V ∧ V x 1 = K ∧ V b 3 = 0) ∧ 0 ≤ a ∧ a ≤ 8) (μ := fun a _ => (8 - a).toNat) (fun a V h ih => ?_) 0 _ ⟨⟨t1, by rw [wr_a (by omega)]; exact hK, wr_same _ _ _ _⟩, by omega, by omega⟩
  obtain ⟨⟨th, hk, h3⟩, h0, h1⟩ := h
  exact t_X1_startWith_12 ⟨by omega, fun _ => ⟨rfl, rfl, rfl, th, hk, h3⟩, fun _ => ⟨ly1_o u.ly, b + 1, by rw [wr_i (by omega)]; exact (ly1_1 u.ly).1, 8, (ly1_1 u.ly).2, by omega, by omega, ih _ _ ⟨⟨TH_wr th (u.th _ _), by rw [wr_a (by omega)]; exact hk, by rw [wr_a (by omega)]; exact h3⟩, by omega, by omega⟩ (by omega)⟩⟩
section
variable {G : List gS} {R V : gV} {b : Nat}
abbrev cfP (V : gV) (r : Int → Int) (n : Int) : gP := fun q V' => ∃ v : Int, q = some (0, v) ∧ (V' = V ∧ ((v = -1 ∧ ¬ pK r n) ∨ (v = cd r ∧ pK r n)))
theorem codeFor_e (ly : lay5 G R b) {n : Int} (hn : 1 ≤ n ∧ n ≤ 8) {r : Int → Int} (hr : ∀ p, 0 ≤ p → p < 8 → r p = if p < n ∧ p < V b 2 then V (b + 1) p else p) : cwv 1 (cfP V r n) 86 [(4, (b : Int)), (0, n)] G R V := by
  refine c_X5_codeFor (t_X5_codeFor_0 ly ?_)
  refine pool3 (f := fun x y z => [some (4, (b : Int)), some (0, n), some (0, x), some (0, y), some (0, z)]) (Inv := fun x y z => (0 ≤ z ∧ z ≤ 8) ∧ x = cdp r z.toNat ∧ (0 ≤ x ∧ (x < e8n z.toNat ∨ (z = 8 ∧ x < 16777216))) ∧ (0 ≤ y ∧ y < 256) ∧ (∀ q, 0 ≤ q → q < 8 → (kand (kshr y q) 1 = 1 ↔ ∃ p', 0 ≤ p' ∧ p' < z ∧ r p' = q)) ∧ (∀ p', 0 ≤ p' → p' < z → (0 ≤ r p' ∧ r p' < 8) ∧ (p' < n → r p' < n)) ∧ (∀ p1 p2, 0 ≤ p1 → p1 < z → 0 ≤ p2 → p2 < z → r p1 = r p2 → p1 = p2)) (μ := fun _ _ z => (8 - z).toNat) (fun x y z h ih => ?_) 0 0 0 ⟨by omega, rfl, ⟨by omega, Or.inl (by decide)⟩, by omega, fun q q0 q1 => ⟨fun w => absurd w ?_, fun w => by obtain ⟨p', w1, w2, _⟩ := w; omega⟩, fun p' p0 p1 => by omega, fun p1 p2 a0 a1 => by omega⟩
  · obtain ⟨z0, ex, xb, y0, hb, hg, hi⟩ := h
    have fail : ¬ pK r n → cfP V r n (some (0, -1)) V := fun w => ⟨-1, rfl, rfl, Or.inl ⟨rfl, w⟩⟩
    have main : ∀ to, to = r z → z < 8 → (((to < 0) → cfP V r n (some (0, (-1))) V) ∧ ((¬ to < 0) → (((¬ to < 8) → cfP V r n (some (0, (-1))) V) ∧ ((to < 8) → (((¬ z < n) → ((((kand ((kshr y to)) 1) = 0) → ((i32 (z + 1)) ∧ wpv K_X5_codeFor 0 (cfP V r n) 7 [some (4, (b : Int)), some (0, n), some (0, (kor ((kshl x 3)) to)), some (0, (kor y ((kshl 1 to)))), some (0, (z + 1))] [] G R V)) ∧ ((¬ (kand ((kshr y to)) 1) = 0) → cfP V r n (some (0, (-1))) V))) ∧ ((z < n) → (((¬ to < n) → cfP V r n (some (0, (-1))) V) ∧ ((to < n) → ((((kand ((kshr y to)) 1) = 0) → ((i32 (z + 1)) ∧ wpv K_X5_codeFor 0 (cfP V r n) 7 [some (4, (b : Int)), some (0, n), some (0, (kor ((kshl x 3)) to)), some (0, (kor y ((kshl 1 to)))), some (0, (z + 1))] [] G R V)) ∧ ((¬ (kand ((kshr y to)) 1) = 0) → cfP V r n (some (0, (-1))) V)))))))))) := by
      intro to ht z8
      have big : ¬ z < n → to = z := fun w => by rw [ht, hr z z0.1 z8, if_neg (fun q => w q.1)]
      have rn : ¬ (0 ≤ to ∧ to < 8) → ¬ pK r n := fun w q => by
        by_cases zn : z < n
        · have := q.1 z z0.1 zn
          rw [← ht] at this
          omega
        · have := big zn
          omega
      have step : (0 ≤ to ∧ to < 8) → (z < n → to < n) → (((kand ((kshr y to)) 1) = 0 → ((i32 (z + 1)) ∧ wpv K_X5_codeFor 0 (cfP V r n) 7 [some (4, (b : Int)), some (0, n), some (0, (kor ((kshl x 3)) to)), some (0, (kor y ((kshl 1 to)))), some (0, (z + 1))] [] G R V)) ∧ ((¬ (kand ((kshr y to)) 1) = 0) → cfP V r n (some (0, (-1))) V)) := by
        intro t0 tn
        refine ⟨fun w => ⟨by omega, ?_⟩, fun w => fail (fun q => ?_)⟩
        · have no : ∀ p', 0 ≤ p' → p' < z → r p' ≠ to := fun p' w1 w2 w3 => by
            have := (hb to t0.1 t0.2).mpr ⟨p', w1, w2, w3⟩
            omega
          have xl : x < e8n z.toNat := by
            rcases xb.2 with q | q
            · exact q
            · omega
          have eb := e8n_b z.toNat
          have b0 := bits (x := y) (t := to) (q := 0) y0 t0 (by omega)
          refine ih _ _ _ ⟨by omega, ?_, ?_, ⟨b0.2.1, b0.2.2⟩, fun q q0 q1 => ?_, fun p' p0 p1 => ?_, fun p1 p2 a0 a1 c0 c1 e => ?_⟩ (by omega)
          · rw [kshl3 (by omega), kor8 (by omega) t0, show (z + 1).toNat = z.toNat + 1 by omega]
            show _ = 8 * cdp r z.toNat + r ((z.toNat : Nat) : Int)
            rw [Int.toNat_of_nonneg z0.1, ← ex, ht]
          · rw [kshl3 (by omega), kor8 (by omega) t0]
            refine ⟨by omega, ?_⟩
            by_cases z7 : z = 7
            · exact Or.inr ⟨by omega, by omega⟩
            · left
              rw [show (z + 1).toNat = z.toNat + 1 by omega, e8n_s (by omega)]
              omega
          · rw [(bits (x := y) (t := to) (q := q) y0 t0 ⟨q0, q1⟩).1, hb q q0 q1]
            constructor
            · intro w
              rcases w with w | ⟨p', w1, w2, w3⟩
              · exact ⟨z, z0.1, by omega, by rw [← ht, w]⟩
              · exact ⟨p', w1, by omega, w3⟩
            · rintro ⟨p', w1, w2, w3⟩
              by_cases e : p' = z
              · left; rw [← w3, e, ht]
              · right; exact ⟨p', w1, by omega, w3⟩
          · by_cases e : p' = z
            · rw [e, ← ht]; exact ⟨t0, tn⟩
            · exact hg p' p0 (by omega)
          · by_cases e1 : p1 = z
            · by_cases e2 : p2 = z
              · omega
              · rw [e1, ← ht] at e
                exact absurd e.symm (no p2 c0 (by omega))
            · by_cases e2 : p2 = z
              · rw [e2, ← ht] at e
                exact absurd e (no p1 a0 (by omega))
              · exact hi p1 p2 a0 (by omega) c0 (by omega) e
        · have one : kand (kshr y to) 1 = 1 := by
            rcases and1 (kshr y to) with q | q
            · exact absurd q w
            · exact q
          obtain ⟨p', w1, w2, w3⟩ := (hb to t0.1 t0.2).mp one
          by_cases zn : z < n
          · have := q.2 p' z w1 (by omega) z0.1 zn (by rw [w3, ht])
            omega
          · have tz := big zn
            by_cases pn : p' < n
            · have := (hg p' w1 w2).2 pn
              omega
            · have : r p' = p' := by rw [hr p' w1 (by omega), if_neg (fun q => pn q.1)]
              omega
      refine ⟨fun w => fail (rn (by omega)), fun w => ⟨fun w2 => fail (rn (by omega)), fun w2 => ⟨fun w3 => step (by omega) (fun q => absurd q w3), fun w3 => ⟨fun w4 => fail (fun q => ?_), fun w4 => step (by omega) (fun _ => w4)⟩⟩⟩⟩
      have := q.1 z z0.1 w3
      rw [← ht] at this
      omega
    refine t_X5_codeFor_7 ly ⟨by omega, fun w => ⟨x, rfl, rfl, Or.inr ⟨?_, ⟨fun q q0 q1 => ?_, fun p q p0 p1 q0 q1 e => hi p q p0 (by omega) q0 (by omega) e⟩⟩⟩, fun w => ⟨by omega, fun w2 => main z (by rw [hr z z0.1 w, if_neg (fun q => w2 q.1)]) w, fun w2 _ => ⟨fun w3 => main z (by rw [hr z z0.1 w, if_neg (fun q => w3 q.2)]) w, fun w3 => ⟨by omega, fun _ => main _ (by rw [hr z z0.1 w, if_pos ⟨w2, w3⟩]) w⟩⟩⟩⟩
    · rw [ex, show z = 8 by omega, show (8 : Int).toNat = 8 from rfl, cdp_8]
    · have := hg q q0 (by omega)
      exact ⟨this.1.1, this.2 q1⟩
  · have := bits0 ⟨q.toNat, by omega⟩
    simp only [Int.toNat_of_nonneg q0] at this
    exact this
end
section
variable {G G' : List gS} {R R' V V' : gV} {T T' : gT} {ow ow' : Nat → Nat} {us us' : Nat → Prop} {w w' : Nat → Nat} {W : gV} {L : Int → Int} {I : Int → gD} {B M S N g b x A : Nat}
theorem readSheets_x (h : cI G R V B M S T ow us w W L I) {n : Int} (hn : 1 ≤ n ∧ n ≤ 8) {sf : Int → Int → Int} (hsf : ∀ s p, 0 ≤ s → s < 4 → 0 ≤ p → p < 8 → sf s p = if p < n ∧ p < L s then L (100 + 8 * s + p) else p) : cwv 2 (fun r V' => ∃ v : Int, r = some (0, v) ∧ (TH T V' ∧ (0 ≤ v ∧ v ≤ 1) ∧ ((v = 0 ∧ ¬ sOK sf n) ∨ (v = 1 ∧ sOK sf n ∧ ∀ s, 0 ≤ s → s < 4 → V' (B + 2) s = cd (sf s))))) 144 [(4, (B : Int)), (0, n)] G R V := by
  refine c_X7_readSheets (t_X7_readSheets_0 h.c.ly ?_)
  refine loop1 (f := fun a => [some (4, (B : Int)), some (0, n), some (0, a)]) (Inv := fun a V => TH T V ∧ (0 ≤ a ∧ a ≤ 4) ∧ ∀ s, 0 ≤ s → s < a → pK (sf s) n ∧ V (B + 2) s = cd (sf s)) (μ := fun a _ => (4 - a).toNat) (fun a V1 hv ih => ?_) 0 _ ⟨h.th, by omega, fun s s0 s1 => by omega⟩
  obtain ⟨th, h0, hs⟩ := hv
  refine t_X7_readSheets_2 h.c.ly ⟨by omega, fun z => ⟨1, rfl, th, by omega, Or.inr ⟨rfl, fun s s0 s1 => (hs s s0 (by omega)).1, fun s s0 s1 => (hs s s0 (by omega)).2⟩⟩, fun z => ?_⟩
  obtain ⟨k, ek, hk⟩ := nat_i (i := a) (n := 4) (by omega)
  obtain ⟨q1, q2, q3, q4, q5⟩ := h.c.sh k hk
  have c2 : V1 (B + 21 + 2 * k) 2 = L a := by rw [ek]; exact (q4 _).mp (th _ _)
  have c3 : ∀ i, 0 ≤ i → i < 8 → V1 (B + 21 + 2 * k + 1) i = L (100 + 8 * a + i) := fun i i0 i1 => by rw [ek]; exact (q5 i _).mp (th _ _) i0 i1
  refine ⟨by omega, B + 21 + 2 * k, ⟨by rw [ek]; exact q1, q2⟩, cwI_u (by omega) (codeFor_e (V := V1) q2 hn (r := sf a) (fun p p0 p1 => by rw [hsf a p h0.1 z p0 p1, c2, c3 p p0 p1])) (fun v V2 hv => ?_)⟩
  obtain ⟨eV, hv⟩ := hv
  subst eV
  have cdr : pK (sf a) n → 0 ≤ cd (sf a) ∧ cd (sf a) < 16777216 := fun q => (pm_cd hn q (fun p p0 p1 => by rw [hsf a p h0.1 z (by omega) (by omega), if_neg (by omega)])).1
  have v32 : -1 ≤ v ∧ v < 16777216 := by
    rcases hv with y | y
    · have := y.1; omega
    · have := cdr y.2
      have := y.1
      omega
  refine ⟨by omega, fun z1 => ⟨by omega, ih _ _ ⟨TH_wr th (h.c.sc _ _), by omega, fun s s0 s1 => ?_⟩ (by omega)⟩, fun z1 => ⟨0, rfl, th, by omega, Or.inl ⟨rfl, fun q => ?_⟩⟩⟩
  · have yv : v = cd (sf a) ∧ pK (sf a) n := by
      rcases hv with y | y
      · exact absurd y.1 z1
      · exact y
    by_cases y : s = a
    · rw [y, wr_same]; exact ⟨yv.2, yv.1⟩
    · rw [wr_i y]; exact hs s s0 (by omega)
  · rcases hv with y | y
    · exact y.2 (q a h0.1 z)
    · have := cdr y.2
      have := y.1
      omega
theorem unusedGroup_x (h : CI G R V B M S N W L I) {K : Int → Int} (hK : ∀ i, V (B + 2) i = K i) : cw 4 (fun r G' R' V' => ∃ q : Nat, r = some (4, (q : Int)) ∧ ugP B M S N W L I q G' R' V' ∧ ∀ i, V' (B + 2) i = K i) 145 [(4, (B : Int))] G R V := by
  refine c_X7_unusedGroup (t_X7_unusedGroup_0 ?_)
  refine loopG (f := fun a => [some (4, (B : Int)), some (0, a)]) (Inv := fun a G R V => (∀ i, V (B + 2) i = K i) ∧ (0 ≤ a ∧ a ≤ 5) ∧ (∀ j : Nat, (j : Int) < a → ∃ b g : Nat, isB R B b ∧ R b 0 = (g : Int) ∧ R (B + 19) (j : Int) = (g : Int)) ∧ ∃ T ow us w, cI G R V B M S T ow us w W L I ∧ (G.length : Int) ≤ N + 23 * a) (μ := fun a => (5 - a).toNat) (fun a G R V hv ih => ?_) 0 G R V ?_
  · obtain ⟨hk0, ⟨a0, a1⟩, hu, T, ow, us, w, c, hN⟩ := hv
    have l := c.c.ly
    refine wp_fr (fun _ fr => t_X7_unusedGroup_2 ⟨ly7_o l, B + 19, (ly7_4 l).1, 5, (ly7_4 l).2, by omega, fun z => ?_, fun z => ⟨by omega, fun z1 => ?_, fun z1 => ?_⟩⟩)
    · exact absurd (five c (fun j hj => hu j (by omega))) (fun f => f)
    · obtain ⟨i, ei, hi⟩ := nat_i (i := a) (n := 5) (by omega)
      rw [ei] at z1 ⊢
      rcases c.gr i hi with q | ⟨g, q, q1, q2⟩
      · omega
      · have lg : lay2 G R g := by
          obtain ⟨p, n, C, D, o, m, E, a, _⟩ := q2
          exact a.u.ly
        refine ⟨g, q, cwI_u (by omega) (isInUse_k c lg) (fun v V1 hv => ?_)⟩
        obtain ⟨v01, v0, v1, eV⟩ := hv
        rw [eV]
        refine ⟨bit32 v01, fun z2 => ⟨by omega, ih _ _ _ _ ⟨hk0, by omega, ?_, T, ow, us, w, c, by omega⟩ (by omega)⟩, fun z2 => ⟨g, rfl, ⟨T, ow, us, w, c, by omega, i, hi, q, v0 z2⟩, hk0⟩⟩
        intro j hj
        by_cases e : (j : Int) = i
        · obtain ⟨b, hb, eb⟩ := v1 z2
          exact ⟨b, g, hb, eb, by rw [e]; exact q⟩
        · exact hu j (by omega)
    · obtain ⟨i, ei, hi⟩ := nat_i (i := a) (n := 5) (by omega)
      rw [ei] at z1 ⊢
      have en : R (B + 19) (i : Int) = -1 := by
        rcases c.gr i hi with q | ⟨g, q, q1, q2⟩
        · exact q.1
        · omega
      have lB := cC_lt c.c
      have hO : (G ++ [gO 2])[G.length]? = some (gO 2) := by rw [List.getElem?_append_right (Nat.le_refl _), Nat.sub_self]; rfl
      refine cw_mono (by omega) (groupInit_k hO (by rw [List.length_append]; rfl) c.th) (fun r G1 R1 V1 h1 => ?_)
      obtain ⟨e1, eG, hR, th1, hV, gt, lk0⟩ := h1
      have hG : gX2 G G1 := by rw [eG]; exact gX2_t gX2_app gX2_app
      have lG1 : G1.length = G.length + 23 := by rw [eG, List.length_append, List.length_append]; rfl
      obtain ⟨T2, ow2, us2, w2, c2⟩ := cI_newg c hi en rfl eG (fun cc j q => hR cc j q) th1 gt
      have hb2 : ∀ b, isB R B b → b < G.length ∧ b ≠ B + 19 := fun b hb => by
        have q := (Classical.choose_spec (cI_b c hb)).1.1.ly
        refine ⟨ltG (ly1_o q), fun e => ?_⟩
        have q1 := ly1_o q
        rw [e, (ly7_4 l).2] at q1
        cases q1
      have rk : ∀ j : Int, wr R1 (B + 19) (i : Int) (G.length : Int) (B + 20) j = R (B + 20) j := fun j => by rw [wr_a (by omega), hR _ _ (by omega)]
      refine ⟨e1, 5, hG _ _ (ly7_4 l).2, by omega, ly2_o gt.ly, hG _ _ (ly7_o l), B + 19, ?_, 5, hG _ _ (ly7_4 l).2, by omega, G.length, wr_same _ _ _ _, ?_⟩
      · rw [wr_a (by omega), hR _ _ (by omega)]; exact (ly7_4 l).1
      · have gl := gt.ly
        have lg2 : lay2 G1 (wr R1 (B + 19) (i : Int) (G.length : Int)) G.length := (gT2_m gt gX2_refl (fun c j z1 z2 => wr_a (by omega)) (fun _ _ _ => rfl) rfl rfl).ly
        refine cwI_u (by omega) (isInUse_k c2 lg2) (fun v V2 hv => ?_)
        obtain ⟨v01, v0, v1, eV⟩ := hv
        rw [eV]
        refine ⟨bit32 v01, fun z2 => ⟨by omega, ih _ _ _ _ ⟨fun i => by rw [hV _ _ (by omega)]; exact hk0 i, by omega, ?_, T2, ow2, us2, w2, c2, by omega⟩ (by omega)⟩, fun z2 => ⟨G.length, rfl, ⟨T2, ow2, us2, w2, c2, by omega, i, hi, wr_same _ _ _ _, v0 z2⟩, fun i => by rw [hV _ _ (by omega)]; exact hk0 i⟩⟩
        intro j hj
        by_cases e : (j : Int) = i
        · obtain ⟨b, hb, eb⟩ := v1 z2
          exact ⟨b, G.length, hb, eb, by rw [e]; exact wr_same _ _ _ _⟩
        · obtain ⟨b, g, hb, e2, e3⟩ := hu j (by omega)
          have bb := hb2 b hb
          refine ⟨b, g, ?_, by rw [wr_a bb.2, hR _ _ (by omega)]; exact e2, by rw [wr_i e, hR _ _ (by omega)]; exact e3⟩
          rcases hb with hb | ⟨k, hk, hb⟩
          · exact Or.inl hb
          · exact Or.inr ⟨k, hk, by rw [rk]; exact hb⟩
  · obtain ⟨T, ow, us, w, c, hN⟩ := h
    exact ⟨hK, by omega, fun j hj => by omega, T, ow, us, w, c, by omega⟩
def rw0 (e : gD) : gD := fun a i => if a = 0 then 0 else e a i
def rwI0 (I : Int → gD) : Int → gD := fun j => if j = 23 then rw0 (I 23) else I j
theorem group_X (h : CI G R V B M S N W L I) {n : Int} (hn : i32 n) {sf : Int → Int → Int} (hsf : ∀ s p, 0 ≤ s → s < 4 → 0 ≤ p → p < 8 → sf s p = if p < n ∧ p < L s then L (100 + 8 * s + p) else p) : cw 7 (fun r G' R' V' => ∃ v : Int, r = some (0, v) ∧ gAns sf n v ∧ ∃ I' : Int → gD, CI G' R' V' B M S (N + 117) W L I' ∧ ((v < 0 ∧ I' = I) ∨ (gOK sf n (I' 3) ∧ hsX (I' 3) ∧ v = I' 3 0 1 ∧ ∀ j, j ≠ 3 → I' j = rwI0 I j))) 105 [(4, (B : Int)), (0, n)] G R V := by
  obtain ⟨T, ow, us, w, c, hN⟩ := h
  have l := c.c.ly
  have rfX : ∀ {G : List gS} {R V : gV} {T : gT} {ow : Nat → Nat} {us : Nat → Prop} {w : Nat → Nat} {a : Int}, cI G R V B M S T ow us w W L I → G.length ≤ N + 117 → i32 a → a < 0 → gAns sf n a → cwv 6 (fun r V' => ∃ v : Int, r = some (0, v) ∧ ∃ v' : Int, some ((0 : Nat), v) = some (0, v') ∧ gAns sf n v' ∧ ∃ I' : Int → gD, CI G R V' B M S (N + 117) W L I' ∧ ((v' < 0 ∧ I' = I) ∨ (gOK sf n (I' 3) ∧ hsX (I' 3) ∧ v' = I' 3 0 1 ∧ ∀ j, j ≠ 3 → I' j = rwI0 I j))) 138 [(4, (B : Int)), (0, a)] G R V := fun h hN ha na ga => cwv_mono (by omega) (refuse_k h.c.ly h.c.re h.th ha) (fun r V' q => by obtain ⟨v, q1, q2, q3⟩ := q; exact ⟨v, q1, v, rfl, by rw [q2]; exact ga, I, ⟨_, _, _, _, cI_v h q3, hN⟩, Or.inl ⟨by omega, rfl⟩⟩)
  have acX : ∀ {G : List gS} {R V : gV} {T : gT} {ow : Nat → Nat} {us : Nat → Prop} {w : Nat → Nat} {a : Int} {I' : Int → gD}, cI G R V B M S T ow us w W L I' → G.length ≤ N + 117 → gAns sf n a → (gOK sf n (I' 3) ∧ hsX (I' 3) ∧ a = I' 3 0 1 ∧ ∀ j, j ≠ 3 → I' j = rwI0 I j) → cwv 6 (fun r V' => ∃ v : Int, r = some (0, v) ∧ ∃ v' : Int, some ((0 : Nat), v) = some (0, v') ∧ gAns sf n v' ∧ ∃ I' : Int → gD, CI G R V' B M S (N + 117) W L I' ∧ ((v' < 0 ∧ I' = I) ∨ (gOK sf n (I' 3) ∧ hsX (I' 3) ∧ v' = I' 3 0 1 ∧ ∀ j, j ≠ 3 → I' j = rwI0 I j))) 139 [(4, (B : Int)), (0, a)] G R V := fun {G R V T ow us w a I'} h hN ga gk => cwv_mono (by omega) (accept_k h.c.ly h.c.re h.th) (fun r V' q => by obtain ⟨v, q1, q2, q3⟩ := q; exact ⟨v, q1, v, rfl, by rw [q2]; exact ga, I', ⟨_, _, _, _, cI_v h q3, hN⟩, Or.inr (by rw [q2]; exact gk)⟩)
  have out : ¬ (1 ≤ n ∧ n ≤ 8) → gAns sf n (-1) := fun q => Or.inl ⟨q, rfl⟩
  refine c_X7_group (t_X7_group_0 ⟨hn, fun z => ⟨ly7_o l, rfX c (by omega) (by omega) (by omega) (out (by omega))⟩, fun z => ⟨fun z1 => ⟨ly7_o l, ?_⟩, fun z1 => ⟨ly7_o l, rfX c (by omega) (by omega) (by omega) (out (by omega))⟩⟩⟩)
  have n8 : 1 ≤ n ∧ n ≤ 8 := by omega
  refine cwI_u (by omega) (readSheets_x c n8 hsf) (fun v6 V5 hv6 => ?_)
  obtain ⟨th5, v01, rs⟩ := hv6
  have no6 : v6 = 0 → gAns sf n (-6) := fun q => by
    rcases rs with y | y
    · exact Or.inr ⟨n8, Or.inl ⟨rfl, y.2⟩⟩
    · exact absurd y.1 (by omega)
  refine ⟨by omega, fun z2 => ⟨ly7_o l, ?_⟩, fun z2 => ⟨ly7_o l, rfX (cI_v c th5) (by omega) (by omega) (by omega) (no6 z2)⟩⟩
  obtain ⟨ok, codes⟩ : sOK sf n ∧ ∀ s, 0 ≤ s → s < 4 → V5 (B + 2) s = cd (sf s) := by
    rcases rs with y | y
    · exact absurd y.1 z2
    · exact y.2
  have hx : ∀ s p, 0 ≤ s → s < 4 → n ≤ p → p ≤ 7 → sf s p = p := fun s p s0 s1 p0 p1 => by rw [hsf s p s0 s1 (by omega) (by omega), if_neg (by omega)]
  refine cw_mono (by omega) (unusedGroup_x ⟨T, ow, us, w, cI_v c th5, hN⟩ (K := fun i => V5 (B + 2) i) (fun _ => rfl)) (fun r G1 R1 V1 h1 => ?_)
  clear l c hN
  obtain ⟨q, er, ⟨T, ow, us, w, c, hN, i, hi, hg, nu⟩, k2⟩ := h1
  have l := c.c.ly
  obtain ⟨Tr, p, n', C, D, o, m, E, thr, gi, fir, post⟩ := cI_build c hi hg nu
  have hB := (cI_g c hi hg).1
  have cv : ∀ s, 0 ≤ s → s < 4 → V1 (B + 2) s = cd (sf s) := fun s s0 s1 => by rw [k2]; exact codes s s0 s1
  have hsc : ∀ s, 0 ≤ s → s < 4 → cO (V1 (B + 2) s) ∧ pm (V1 (B + 2) s) := fun s s0 s1 => by rw [cv s s0 s1]; exact pm_cd n8 (ok s s0 s1) (fun p p0 p1 => hx s p s0 s1 p0 p1)
  refine ⟨q, er, ly7_o l, B + 2, (ly7_1 l).1, B + 3, (ly7_2 l).1, ly2_o gi.ly, ?_⟩
  refine cw_mono (by omega) (groupBuild_x gi fir (by omega) thr n8 (ly7_1 l).2 (by omega) hsc) (fun r2 G2 R2 V2 h2 => ?_)
  obtain ⟨v, er2, hv, qd, P, pp, oo, ep, eo, bz⟩ := h2
  have ga := gbZ_ans (a := n) n8 ok (sf_r n8 ok hx) cv bz
  obtain ⟨T2, ow2, us2, w2, c2, u2, hg2, hl, lkd⟩ := post v qd G2 R2 V2 P
  have l2 := c2.c.ly
  refine ⟨v, er2, by omega, fun z3 => ⟨ly7_o l2, B + 52, c2.c.rb, ly1_o c2.be.1.1.ly, ?_⟩, fun z3 => ⟨ly7_o l2, rfX c2 (by omega) (by omega) (by omega) (by rcases ga with y | y; exact y.2; exact absurd y.1 (by omega))⟩⟩
  obtain ⟨ga, gk, gh⟩ : gAns sf n (dV V2 q pp oo qd 0 1) ∧ gOK sf n (dV V2 q pp oo qd) ∧ hsX (dV V2 q pp oo qd) := by
    rcases ga with y | y
    · exact absurd y.1 z3
    · exact y.2
  obtain ⟨pp2, oo2, ep2, eo2, lk2⟩ := lkd z3
  have epp : pp2 = pp := by omega
  have eoo : oo2 = oo := by omega
  rw [epp, eoo] at lk2
  have gu := (cI_g c2 hi hg2).2
  have nq : q ≠ B + 52 := ob (gU_o gu).1 (ly1_o c2.be.1.1.ly) (by omega)
  have hxq : q + 1 < B + 52 ∨ B + 52 + 1 < q + 1 := by
    apply Classical.byContradiction
    intro y
    obtain ⟨_, _, _, _, _, _, _, _, _, cc, _⟩ := gu
    have a1 := cc (q + 1) (by omega) (by omega)
    have a2 := c2.be.1.2 (q + 1) (by omega) (by omega)
    omega
  refine cw_mono (by omega) (startWith_x (g := q) (K := V2 (q + 1) 1) (x := q + 1) (rlB_bT c2.be.1.1) rlB_bW (rlB_th c2.be.1.1 c2.th) hxq rfl) (fun r3 G3 R3 V3 h3 => ?_)
  obtain ⟨e3, eG, eR, th3, ek, ez⟩ := h3
  have r00 : rw0 (I 23) 0 0 = 0 := if_pos rfl
  have c2a := cI_rows (I' := rwI0 I) (e := rw0 (I 23)) c2 (Or.inl rfl) (by rw [r00]; omega) th3 (by rw [r00]; exact ez) (fun i i0 i1 => by rw [r00] at i1; omega) (fun j hj => by unfold rwI0; rw [if_neg (by omega)]) (fun _ => if_pos rfl) (fun y => absurd rfl y) (fun k' hk' y => absurd rfl (c2.iy k' _ hk' y)) (fun k' hk' _ => by unfold rwI0; rw [if_neg (by omega)])
  have lk3 := lkT_t lk2 gu (cI_tch c2 c2.be (T' := pnB T2 (B + 52) (rw0 (I 23))) (fun c' z1 z2 => pnB_n z1 z2)) nq
  have c3 := cI_setg (I' := fun j => if j = 3 then dV V2 q pp oo qd else rwI0 I j) c2a (Or.inl rfl) hi hg2 (u2 z3) c2a.th lk3 (fun _ => if_pos rfl) (fun y => absurd rfl y) (fun k' _ => by rw [if_neg (by omega)]) (fun k' hk' y => absurd rfl (c2.iy k' _ hk' y)) (fun k' _ _ => by rw [if_neg (by omega)]) (by rw [if_neg (by omega)]) (fun k' _ => by rw [if_neg (by omega)])
  rw [← eR] at c3
  subst eG
  have hg3 : R3 (B + 19) (i : Int) = (q : Int) := by rw [eR, wr_a (by omega)]; exact hg2
  obtain ⟨-, p, n', C, D, o, m, E, gi, _⟩ := cI_g c3 hi hg3
  have l3 := c3.c.ly
  rw [dV_01, ← ek] at ga
  exact ⟨e3, ly2_o gi.u.ly, q + 1, (ly2_0 gi.u.ly).1, ly6_o gi.u.t.ly, fun _ => ⟨ly7_o l3, acX c3 (by omega) ga ⟨by rw [if_pos rfl]; exact gk, by rw [if_pos rfl]; exact gh, by rw [if_pos rfl, dV_01]; exact ek, fun j hj => by rw [if_neg hj]⟩⟩⟩
end
