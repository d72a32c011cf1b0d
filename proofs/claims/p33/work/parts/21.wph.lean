theorem wr_same (V : gV) (a : Nat) (i v : Int) : wr V a i v a i = v := by simp [wr]
theorem wr_ne {V : gV} {a a' : Nat} {i i' v : Int} (h : ¬ (a' = a ∧ i' = i)) : wr V a i v a' i' = V a' i' := by simp only [wr, if_neg h]
theorem wr_a {V : gV} {a a' : Nat} {i i' v : Int} (h : a' ≠ a) : wr V a i v a' i' = V a' i' := wr_ne (fun q => h q.1)
theorem wr_i {V : gV} {a a' : Nat} {i i' v : Int} (h : i' ≠ i) : wr V a i v a' i' = V a' i' := wr_ne (fun q => h q.2)
theorem getE_lt {α : Type} {l : List α} {a : Nat} {x : α} (h : l[a]? = some x) : a < l.length := (List.getElem?_eq_some_iff.mp h).1
theorem HR_put {h : zH} {G : List gS} {R V R' V' : gV} (hh : HR h G R V) {a ci : Nat} {fs : List zV} {k t : Nat} {v : zV} (hG : G[a]? = some (.inl ci)) (hf : h[a]? = some (.inl (ci, fs))) (hk : (zkinds ci)[k]? = some t) (hV : ∀ (a' : Nat) (i' : Int), ¬ (a' = a ∧ i' = (k : Int)) → V' a' i' = V a' i' ∧ R' a' i' = R a' i') (hv : en t R' V' a k = v) (ho : okf t (V' a k)) : HR (zset h (.inl (ci, zset fs v k)) a) G R' V' := by
  obtain ⟨h0, h1, h2, ⟨h3, h4, h6⟩, h5⟩ := hh
  have ha : a < h.length := getE_lt hf
  have hne : ∀ (a' : Nat) (i' : Int), a' ≠ a → V' a' i' = V a' i' ∧ R' a' i' = R a' i' := fun a' i' q => hV a' i' (fun z => q z.1)
  rw [zset_eq, zset_eq]
  refine ⟨by rw [List.length_set]; exact h0, ?_, ?_, ⟨?_, ?_, h6⟩, ?_⟩
  · intro a' ci' g
    obtain ⟨fs', q1, q2, q3⟩ := h1 a' ci' g
    by_cases e : a' = a
    · subst e
      rw [hG] at g
      cases g
      rw [hf] at q1
      cases q1
      refine ⟨fs.set k v, by rw [List.getElem?_set_self ha], by rw [List.length_set]; exact q2, ?_⟩
      intro k' t' hk'
      by_cases ek : k' = k
      · subst ek
        rw [hk] at hk'
        cases hk'
        rw [List.getElem?_set_self (by rw [q2]; exact getE_lt hk), hv]
      · rw [List.getElem?_set_ne (fun z => ek z.symm), q3 k' t' hk']
        have := hV a' (k' : Int) (fun z => ek (by have := z.2; omega))
        unfold en
        rw [this.1, this.2]
    · refine ⟨fs', by rw [List.getElem?_set_ne (fun z => e z.symm)]; exact q1, q2, ?_⟩
      intro k' t' hk'
      rw [q3 k' t' hk']
      have := hne a' (k' : Int) e
      unfold en
      rw [this.1, this.2]
  · intro a' ty n g
    have e : a' ≠ a := by
      intro z
      subst z
      rw [hG] at g
      cases g
    obtain ⟨f, q1, q2⟩ := h2 a' ty n g
    refine ⟨f, by rw [List.getElem?_set_ne (fun z => e z.symm)]; exact q1, ?_⟩
    intro i hi
    rw [q2 i hi]
    have := hne a' (i : Int) e
    unfold ea
    rw [this.1, this.2]
  · intro a' ci' k' t' g hk'
    by_cases e : a' = a ∧ (k' : Int) = (k : Int)
    · obtain ⟨e1, e2⟩ := e
      subst e1
      have e2 : k' = k := by omega
      subst e2
      rw [hG] at g
      cases g
      rw [hk] at hk'
      cases hk'
      exact ho
    · rw [(hV a' k' e).1]
      exact h3 a' ci' k' t' g hk'
  · intro a' ty n i g hi
    have e : a' ≠ a := by
      intro z
      subst z
      rw [hG] at g
      cases g
    rw [(hne a' i e).1]
    exact h4 a' ty n i g hi
  · intro a' i' hl
    have e : a' ≠ a := by
      intro z
      subst z
      omega
    rw [(hne a' i' e).1, (hne a' i' e).2]
    exact h5 a' i' hl
theorem HR_ast {h : zH} {G : List gS} {R V R' V' : gV} (hh : HR h G R V) {a ty n : Nat} {f : Nat → zV} {j : Nat} {v : zV} (hG : G[a]? = some (.inr (ty, n))) (hf : h[a]? = some (.inr (ty, n, f))) (hj : j < n) (hV : ∀ (a' : Nat) (i' : Int), ¬ (a' = a ∧ i' = (j : Int)) → V' a' i' = V a' i' ∧ R' a' i' = R a' i') (hv : ea ty R' V' a j = v) (ho : oka ty (V' a j)) : HR (zset h (.inr (ty, n, zupd f j v)) a) G R' V' := by
  obtain ⟨h0, h1, h2, ⟨h3, h4, h6⟩, h5⟩ := hh
  have ha : a < h.length := getE_lt hf
  have hne : ∀ (a' : Nat) (i' : Int), a' ≠ a → V' a' i' = V a' i' ∧ R' a' i' = R a' i' := fun a' i' q => hV a' i' (fun z => q z.1)
  rw [zset_eq]
  refine ⟨by rw [List.length_set]; exact h0, ?_, ?_, ⟨?_, ?_, h6⟩, ?_⟩
  · intro a' ci' g
    have e : a' ≠ a := by
      intro z
      subst z
      rw [hG] at g
      cases g
    obtain ⟨fs', q1, q2, q3⟩ := h1 a' ci' g
    refine ⟨fs', by rw [List.getElem?_set_ne (fun z => e z.symm)]; exact q1, q2, ?_⟩
    intro k' t' hk'
    rw [q3 k' t' hk']
    have := hne a' (k' : Int) e
    unfold en
    rw [this.1, this.2]
  · intro a' ty' n' g
    obtain ⟨f', q1, q2⟩ := h2 a' ty' n' g
    by_cases e : a' = a
    · subst e
      rw [hG] at g
      cases g
      rw [hf] at q1
      cases q1
      refine ⟨zupd f j v, by rw [List.getElem?_set_self ha], ?_⟩
      intro i hi
      unfold zupd
      by_cases ei : i = j
      · subst ei
        simp [hv]
      · have eb : Nat.beq i j = false := by
          cases hb : Nat.beq i j with
          | false => rfl
          | true => exact absurd (Nat.eq_of_beq_eq_true hb) ei
        rw [eb, cond_false, q2 i hi]
        have := hV a' (i : Int) (fun z => ei (by have := z.2; omega))
        unfold ea
        rw [this.1, this.2]
    · refine ⟨f', by rw [List.getElem?_set_ne (fun z => e z.symm)]; exact q1, ?_⟩
      intro i hi
      rw [q2 i hi]
      have := hne a' (i : Int) e
      unfold ea
      rw [this.1, this.2]
  · intro a' ci' k' t' g hk'
    have e : a' ≠ a := by
      intro z
      subst z
      rw [hG] at g
      cases g
    rw [(hne a' k' e).1]
    exact h3 a' ci' k' t' g hk'
  · intro a' ty' n' i g hi
    by_cases e : a' = a ∧ (i : Int) = (j : Int)
    · obtain ⟨e1, e2⟩ := e
      subst e1
      have e2 : i = j := by omega
      subst e2
      rw [hG] at g
      cases g
      exact ho
    · rw [(hV a' i e).1]
      exact h4 a' ty' n' i g hi
  · intro a' i' hl
    have e : a' ≠ a := by
      intro z
      subst z
      omega
    rw [(hne a' i' e).1, (hne a' i' e).2]
    exact h5 a' i' hl
theorem en_frG {t : Nat} {R V : gV} {a : Nat} {k : Int} (h : V a k = 0 ∧ R a k = -1) : en t R V a k = (match t with
  | 0 => (0, 0)
  | 1 => (2, 0)
  | _ => (5, 0)) := by
  unfold en
  rw [h.1, h.2]
  match t with
  | 0 => rfl
  | 1 => rfl
  | _ + 2 => rfl
theorem HR_new {h : zH} {G : List gS} {R V : gV} (hh : HR h G R V) (ci : Nat) : HR (h ++ [.inl (ci, zdfs (zkinds ci))]) (G ++ [.inl ci]) R V := by
  obtain ⟨h0, h1, h2, ⟨h3, h4, h6⟩, h5⟩ := hh
  have old : ∀ {a : Nat} {s : gS}, (G ++ [.inl ci])[a]? = some s → G[a]? = some s ∨ (a = G.length ∧ s = .inl ci) := by
    intro a s g
    rcases Nat.lt_trichotomy a G.length with q | q | q
    · left; rw [List.getElem?_append_left q] at g; exact g
    · right; subst q; simp at g; exact ⟨rfl, g.symm⟩
    · rw [List.getElem?_append_right (by omega)] at g
      have : a - G.length ≠ 0 := by omega
      match hq : a - G.length with
      | 0 => omega
      | m + 1 => rw [hq] at g; simp at g
  refine ⟨by simp [h0], ?_, ?_, ⟨?_, ?_, ?_⟩, ?_⟩
  · intro a ci' g
    rcases old g with g | ⟨ga, e⟩
    · obtain ⟨fs, q1, q2, q3⟩ := h1 a ci' g
      exact ⟨fs, by rw [List.getElem?_append_left (getE_lt q1)]; exact q1, q2, q3⟩
    · cases e
      subst ga
      refine ⟨zdfs (zkinds ci), by rw [← h0]; simp, by simp [zdfs], ?_⟩
      intro k t hk
      unfold zdfs
      rw [List.getElem?_map, hk, en_frG (h5 _ _ (Nat.le_refl _))]
      match t with
      | 0 => rfl
      | 1 => rfl
      | _ + 2 => rfl
  · intro a ty n g
    rcases old g with g | ⟨ga, e⟩
    · obtain ⟨f, q1, q2⟩ := h2 a ty n g
      exact ⟨f, by rw [List.getElem?_append_left (getE_lt q1)]; exact q1, q2⟩
    · cases e
  · intro a ci' k t g hk
    rcases old g with g | ⟨ga, e⟩
    · exact h3 a ci' k t g hk
    · subst ga
      rw [(h5 _ _ (Nat.le_refl _)).1]
      match t with
      | 0 => exact ⟨by omega, by omega⟩
      | 1 => exact ⟨by omega, by omega⟩
      | _ + 2 => trivial
  · intro a ty n i g hi
    rcases old g with g | ⟨ga, e⟩
    · exact h4 a ty n i g hi
    · cases e
  · intro a ty n g
    rcases old g with g | ⟨ga, e⟩
    · exact h6 a ty n g
    · cases e
  · intro a i hl
    exact h5 a i (by simp at hl; omega)
theorem HR_arr {h : zH} {G : List gS} {R V : gV} (hh : HR h G R V) {ty n : Nat} (hty : ty < 6) (hn : n ≤ 1000000) : HR (h ++ [.inr (ty, n, fun _ => zdef ty)]) (G ++ [.inr (ty, n)]) R V := by
  obtain ⟨h0, h1, h2, ⟨h3, h4, h6⟩, h5⟩ := hh
  have old : ∀ {a : Nat} {s : gS}, (G ++ [.inr (ty, n)])[a]? = some s → G[a]? = some s ∨ (a = G.length ∧ s = .inr (ty, n)) := by
    intro a s g
    rcases Nat.lt_trichotomy a G.length with q | q | q
    · left; rw [List.getElem?_append_left q] at g; exact g
    · right; subst q; simp at g; exact ⟨rfl, g.symm⟩
    · rw [List.getElem?_append_right (by omega)] at g
      match hq : a - G.length with
      | 0 => omega
      | m + 1 => rw [hq] at g; simp at g
  refine ⟨by simp [h0], ?_, ?_, ⟨?_, ?_, ?_⟩, ?_⟩
  · intro a ci' g
    rcases old g with g | ⟨ga, e⟩
    · obtain ⟨fs, q1, q2, q3⟩ := h1 a ci' g
      exact ⟨fs, by rw [List.getElem?_append_left (getE_lt q1)]; exact q1, q2, q3⟩
    · cases e
  · intro a ty' n' g
    rcases old g with g | ⟨ga, e⟩
    · obtain ⟨f, q1, q2⟩ := h2 a ty' n' g
      exact ⟨f, by rw [List.getElem?_append_left (getE_lt q1)]; exact q1, q2⟩
    · cases e
      subst ga
      refine ⟨fun _ => zdef ty, by rw [← h0]; simp, ?_⟩
      intro i hi
      have q := h5 G.length (i : Int) (Nat.le_refl _)
      unfold ea
      rw [q.1, q.2]
      match ty with
      | 0 => rfl
      | 1 => rfl
      | 2 => rfl
      | _ + 3 => rfl
  · intro a ci' k t g hk
    rcases old g with g | ⟨ga, e⟩
    · exact h3 a ci' k t g hk
    · cases e
  · intro a ty' n' i g hi
    rcases old g with g | ⟨ga, e⟩
    · exact h4 a ty' n' i g hi
    · cases e
      subst ga
      rw [(h5 _ _ (Nat.le_refl _)).1]
      match ty with
      | 0 => exact ⟨by omega, by omega⟩
      | 1 => exact ⟨by omega, by omega⟩
      | 2 => exact Or.inl rfl
      | _ + 3 => trivial
  · intro a ty' n' g
    rcases old g with g | ⟨ga, e⟩
    · exact h6 a ty' n' g
    · cases e
      exact ⟨hn, hty⟩
  · intro a i hl
    exact h5 a i (by simp at hl; omega)
section
variable {K : gK} {d : Nat} {Q : gQ} {pc : Nat} {L : gL} {st : List zV} {G : List gS} {R V : gV} {i : Instr}
theorem wp_get {x a ci k t : Nat} {v : zV} (hp : Nat.blt pc 512 = true) (hc : K.1 pc = some (.getfield x)) (ho : zfl K.2.1 x = some (ci, k)) (hG : G[a]? = some (.inl ci)) (hk : (zkinds ci)[k]? = some t) (hv : en t R V a k = v) (nx : wp K d Q (pc + 3) L (v :: st) G R V) : wp K d Q pc L ((4, (a : Int)) :: st) G R V := by
  refine wp_s hp hc (fun h ls hh hl => ⟨h, ls, hh, hl, fun F d' => ?_⟩) nx
  obtain ⟨fs, q1, q2, q3⟩ := hh.2.1 a ci hG
  exact hb_get (by rw [znth_eq]; exact q1) ho (by rw [znth_eq, q3 k t hk, hv])
theorem wp_putV {x a ci k t : Nat} {v : zV} {c : Int} (hp : Nat.blt pc 512 = true) (hc : K.1 pc = some (.putfield x)) (ho : zfl K.2.1 x = some (ci, k)) (hG : G[a]? = some (.inl ci)) (hk : (zkinds ci)[k]? = some t) (hf : (!(zfin ci k) || (K.2.2.2.2 && Nat.beq K.2.1 ci)) = true) (ht : t < 2) (hv : v = (cond (Nat.beq t 0) 0 2, c)) (hr : okf t c) (nx : wp K d Q (pc + 3) L st G R (wr V a k c)) : wp K d Q pc L (v :: (4, (a : Int)) :: st) G R V := by
  refine wp_s hp hc (fun h ls hh hl => ?_) nx
  obtain ⟨fs, q1, q2, q3⟩ := hh.2.1 a ci hG
  refine ⟨zset h (.inl (ci, zset fs v k)) a, ls, HR_put hh hG q1 hk (fun a' i' z => ⟨wr_ne z, rfl⟩) ?_ (by rw [wr_same]; exact hr), hl, fun F d' => ?_⟩
  · rw [hv]
    match t, ht with
    | 0, _ => (simp only [en, wr_same]; try rfl)
    | 1, _ => (simp only [en, wr_same]; try rfl)
  · show hd_put zkinds zfin K.2.1 K.2.2.2.2 (zfl K.2.1 x) pc ls (v :: (4, (a : Int)) :: st) h = _
    have hz : zfit t v = true := by
      rw [hv]
      match t, ht with
      | 0, _ => rfl
      | 1, _ => rfl
    have hl2 : Nat.blt k fs.length = true := Nat.ble_eq_true_of_le (by rw [q2]; exact getE_lt hk)
    rw [← znth_eq] at q1 hk
    unfold hd_put
    rw [ho]
    simp only [Int.toNat_natCast, q1, Nat.beq_refl, Bool.true_and, hf, hl2, Bool.and_self, cond_true, hk, hz]
theorem wp_putR {x a ci k : Nat} {r : Int} (hp : Nat.blt pc 512 = true) (hc : K.1 pc = some (.putfield x)) (ho : zfl K.2.1 x = some (ci, k)) (hG : G[a]? = some (.inl ci)) (hk : (zkinds ci)[k]? = some 2) (hf : (!(zfin ci k) || (K.2.2.2.2 && Nat.beq K.2.1 ci)) = true) (nx : wp K d Q (pc + 3) L st G (wr R a k r) V) : wp K d Q pc L (rf r :: (4, (a : Int)) :: st) G R V := by
  refine wp_s hp hc (fun h ls hh hl => ?_) nx
  obtain ⟨fs, q1, q2, q3⟩ := hh.2.1 a ci hG
  refine ⟨zset h (.inl (ci, zset fs (rf r) k)) a, ls, HR_put hh hG q1 hk (fun a' i' z => ⟨rfl, wr_ne z⟩) (by simp [en, wr_same]) trivial, hl, fun F d' => ?_⟩
  show hd_put zkinds zfin K.2.1 K.2.2.2.2 (zfl K.2.1 x) pc ls (rf r :: (4, (a : Int)) :: st) h = _
  have hz : zfit 2 (rf r) = true := by
    match r with
    | .ofNat _ => rfl
    | .negSucc _ => rfl
  have hl2 : Nat.blt k fs.length = true := Nat.ble_eq_true_of_le (by rw [q2]; exact getE_lt hk)
  rw [← znth_eq] at q1 hk
  unfold hd_put
  rw [ho]
  simp only [Int.toNat_natCast, q1, Nat.beq_refl, Bool.true_and, hf, hl2, Bool.and_self, cond_true, hk, hz]
theorem zix_i {n : Nat} {x : Int} (h0 : 0 ≤ x) (h1 : x < n) (hn : n ≤ 1000000) : zix n x = some x.toNat := zix_c (by omega) (by omega) (by omega)
theorem wp_ald {tt : Nat → Bool} {t : zV → Bool} {a ty n : Nat} {x : Int} {v : zV} (hp : Nat.blt pc 512 = true) (hc : K.1 pc = some i) (ho : ∀ (call : zCall), zops call zb0 K.2.1 K.2.2.1 K.2.2.2.1 K.2.2.2.2 i = hd_ald tt t) (hG : G[a]? = some (.inr (ty, n))) (htt : tt ty = true) (h0 : 0 ≤ x) (h1 : x < n) (hv : ea ty R V a x = v) (ht : oka ty (V a x) → t v = true) (nx : wp K d Q (pc + 1) L (v :: st) G R V) : wp K d Q pc L ((0, x) :: (4, (a : Int)) :: st) G R V := by
  refine wp_s hp hc (fun h ls hh hl => ⟨h, ls, hh, hl, fun F d' => ?_⟩) nx
  obtain ⟨f, q1, q2⟩ := hh.2.2.1 a ty n hG
  obtain ⟨_, q4, q5⟩ := hh.2.2.2.1
  have e : ((x.toNat : Nat) : Int) = x := by omega
  have q3 := q2 x.toNat (by omega)
  have q6 := q4 a ty n x.toNat hG (by omega)
  rw [e] at q3 q6
  rw [hv] at q3
  rw [ho, hb_ald (by rw [znth_eq]; exact q1) htt (zix_i h0 h1 (q5 a ty n hG).1) (by rw [q3]; exact ht q6), q3]
theorem wp_astV {tt : Nat → Bool} {t : zV → Bool} {a ty n : Nat} {x c : Int} {v : zV} (hp : Nat.blt pc 512 = true) (hc : K.1 pc = some i) (ho : ∀ (call : zCall), zops call zb0 K.2.1 K.2.2.1 K.2.2.2.1 K.2.2.2.2 i = hd_ast tt t) (hG : G[a]? = some (.inr (ty, n))) (htt : tt ty = true) (hty : ty < 3) (h0 : 0 ≤ x) (h1 : x < n) (hv : v = (cond (Nat.beq ty 1) 2 0, c)) (ht : t v = true) (hr : oka ty c) (nx : wp K d Q (pc + 1) L st G R (wr V a x c)) : wp K d Q pc L (v :: (0, x) :: (4, (a : Int)) :: st) G R V := by
  refine wp_s hp hc (fun h ls hh hl => ?_) nx
  obtain ⟨f, q1, q2⟩ := hh.2.2.1 a ty n hG
  obtain ⟨_, q4, q5⟩ := hh.2.2.2.1
  have e : ((x.toNat : Nat) : Int) = x := by omega
  refine ⟨zset h (.inr (ty, n, zupd f x.toNat v)) a, ls, HR_ast hh hG q1 (by omega) (fun a' i' z => ⟨wr_ne (by rw [e] at z; exact z), rfl⟩) ?_ (by rw [e, wr_same]; exact hr), hl, fun F d' => ?_⟩
  · rw [e, hv]
    match ty, hty with
    | 0, _ => (simp only [ea, wr_same]; try rfl)
    | 1, _ => (simp only [ea, wr_same]; try rfl)
    | 2, _ => (simp only [ea, wr_same]; try rfl)
  · rw [ho]
    exact hb_ast (by rw [znth_eq]; exact q1) htt (zix_i h0 h1 (q5 a ty n hG).1) ht
theorem wp_astR {a ty n q ci : Nat} {x : Int} (hp : Nat.blt pc 512 = true) (hc : K.1 pc = some .aastore) (hG : G[a]? = some (.inr (ty, n))) (hq : G[q]? = some (.inl ci)) (hty : 2 < ty ∧ ty < 6) (he : zel ty = ci) (h0 : 0 ≤ x) (h1 : x < n) (nx : wp K d Q (pc + 1) L st G (wr R a x (q : Int)) V) : wp K d Q pc L ((4, (q : Int)) :: (0, x) :: (4, (a : Int)) :: st) G R V := by
  refine wp_s hp hc (fun h ls hh hl => ?_) nx
  obtain ⟨f, q1, q2⟩ := hh.2.2.1 a ty n hG
  obtain ⟨fs, q7, _, _⟩ := hh.2.1 q ci hq
  obtain ⟨_, q4, q5⟩ := hh.2.2.2.1
  have e : ((x.toNat : Nat) : Int) = x := by omega
  refine ⟨zset h (.inr (ty, n, zupd f x.toNat (4, (q : Int)))) a, ls, HR_ast hh hG q1 (by omega) (fun a' i' z => ⟨rfl, wr_ne (by rw [e] at z; exact z)⟩) ?_ ?_, hl, fun F d' => ?_⟩
  · rw [e]
    match ty, hty with
    | m + 3, _ => simp [ea, wr_same, rf_nat]
  · match ty, hty with
    | m + 3, _ => trivial
  · show hd_aast zel pc ls ((4, (q : Int)) :: (0, x) :: (4, (a : Int)) :: st) h = _
    rw [← znth_eq] at q1 q7
    unfold hd_aast
    have b1 : Nat.blt 2 ty = true := Nat.ble_eq_true_of_le hty.1
    have b2 : Nat.blt ty 6 = true := Nat.ble_eq_true_of_le hty.2
    simp only [Int.toNat_natCast, q1, q7, b1, b2, he, Nat.beq_refl, Bool.and_self, cond_true, zix_i h0 h1 (q5 a ty n hG).1]
theorem wp_alen {a ty n : Nat} (hp : Nat.blt pc 512 = true) (hc : K.1 pc = some .arraylength) (hG : G[a]? = some (.inr (ty, n))) (nx : wp K d Q (pc + 1) L ((0, (n : Int)) :: st) G R V) : wp K d Q pc L ((4, (a : Int)) :: st) G R V := by
  refine wp_s hp hc (fun h ls hh hl => ⟨h, ls, hh, hl, fun F d' => ?_⟩) nx
  obtain ⟨f, q1, q2⟩ := hh.2.2.1 a ty n hG
  obtain ⟨_, q4, q5⟩ := hh.2.2.2.1
  have q6 := q5 a ty n hG
  show hd_alen pc ls ((4, (a : Int)) :: st) h = _
  rw [← znth_eq] at q1
  unfold hd_alen
  have b1 : Nat.blt n 2147483648 = true := Nat.ble_eq_true_of_le (by omega)
  have b2 : Nat.blt ty 6 = true := Nat.ble_eq_true_of_le q6.2
  simp only [Int.toNat_natCast, q1, b1, b2, Bool.and_self, cond_true]
theorem wp_new {x ci : Nat} (hp : Nat.blt pc 512 = true) (hc : K.1 pc = some (.new x)) (ho : zcl K.2.1 x = some ci) (nx : wp K d Q (pc + 3) L ((4, (G.length : Int)) :: st) (G ++ [.inl ci]) R V) : wp K d Q pc L st G R V := by
  refine wp_s hp hc (fun h ls hh hl => ⟨h ++ [.inl (ci, zdfs (zkinds ci))], ls, HR_new hh ci, hl, fun F d' => ?_⟩) nx
  show hd_new zkinds (zcl K.2.1 x) pc ls st h = _
  unfold hd_new
  rw [ho]
  dsimp only
  rw [zfN_eq, hh.1]
theorem wp_arr {n ty : Nat} {len : Int} (hp : Nat.blt pc 512 = true) (hc : K.1 pc = some i) (ho : ∀ (call : zCall) (h : zH) (ls : zL), zops call zb0 K.2.1 K.2.2.1 K.2.2.2.1 K.2.2.2.2 i pc ls ((0, len) :: st) h = zmk n ty pc ls ((0, len) :: st) h) (hty : ty < 6) (h0 : 0 ≤ len) (h1 : len ≤ 1000000) (nx : wp K d Q (pc + n) L ((4, (G.length : Int)) :: st) (G ++ [.inr (ty, len.toNat)]) R V) : wp K d Q pc L ((0, len) :: st) G R V := by
  refine wp_s hp hc (fun h ls hh hl => ⟨h ++ [.inr (ty, len.toNat, fun _ => zdef ty)], ls, HR_arr hh hty (by omega), hl, fun F d' => ?_⟩) nx
  rw [ho]
  unfold zmk
  have e : (Int32.ofInt len).toInt = Int.ofNat len.toNat := by rw [z32 (by omega) (by omega)]; exact (Int.toNat_of_nonneg h0).symm
  have b1 : Nat.ble len.toNat 1000000 = true := Nat.ble_eq_true_of_le (by omega)
  simp only [e, zfN_eq, b1, cond_true, hh.1]
theorem wp_acmp {c : ACond} {off : Int} {a b : Nat} (t : Nat) (hp : Nat.blt pc 512 = true) (hc : K.1 pc = some (.if_acmp c off)) (ht : (pc : Int) + off = (t : Int)) (n1 : (match c with
    | .eq => b = a
    | .ne => ¬ b = a) → wp K d Q t L st G R V) (n2 : ¬ (match c with
    | .eq => b = a
    | .ne => ¬ b = a) → wp K d Q (pc + 3) L st G R V) : wp K d Q pc L ((4, (a : Int)) :: (4, (b : Int)) :: st) G R V := by
  have hs : zsame (4, (b : Int)) (4, (a : Int)) = Nat.beq b a := by simp [zsame]
  have hb : Nat.beq b a = decide (b = a) := by
    cases hq : Nat.beq b a with
    | true => simp [Nat.eq_of_beq_eq_true hq]
    | false => simp [Nat.ne_of_beq_eq_false hq]
  cases c with
  | eq =>
    refine wp_br (o := some (decide (b = a))) t _ hp hc (fun call h ls => ?_) rfl ht (fun q => n1 (by simpa using q)) (fun q => n2 (by simpa using q))
    show hd_acmp .eq off pc ls ((4, (a : Int)) :: (4, (b : Int)) :: st) h = _
    unfold hd_acmp
    simp only [hs, hb]
    rfl
  | ne =>
    refine wp_br (o := some (!decide (b = a))) t _ hp hc (fun call h ls => ?_) rfl ht (fun q => n1 (by simpa using q)) (fun q => n2 (by simpa using q))
    show hd_acmp .ne off pc ls ((4, (a : Int)) :: (4, (b : Int)) :: st) h = _
    unfold hd_acmp
    simp only [hs, hb]
    rfl
/-! calls and answers -/
theorem wp_call {y : Nat} {as : List zV} (st' : List zV) (hp : Nat.blt pc 512 = true) (hc : K.1 pc = some i) (ho : ∀ (h : zH) (ls : zL), HR h G R V → ∀ call : zCall, zops call zb0 K.2.1 K.2.2.1 K.2.2.2.1 K.2.2.2.2 i pc ls st' h = zback call y as pc ls st h) (w : cw d (fun r G' R' V' => wp K d Q (pc + 3) L (r.toList ++ st) G' R' V') y as G R V) : wp K d Q pc L st' G R V := by
  intro h ls hh hl
  obtain ⟨r, h1, G1, R1, V1, a1, b1, F1, c1⟩ := w h hh
  obtain ⟨r2, h2, G2, R2, V2, a2, b2, F2, k, c2⟩ := b1 h1 ls a1 hl
  refine ⟨r2, h2, G2, R2, V2, a2, b2, F1 + F2, k + 1, fun F hF d' hd n => ?_⟩
  refine (zrun_s (q := (pc + 3, ls, r.toList ++ st, h1)) hp hc ?_).trans (c2 F (by omega) d' hd n)
  rw [ho h ls hh]
  unfold zback
  rw [c1 F (by omega) d' hd]
theorem wp_virt {x k y a : Nat} {as : List zV} (st' : List zV) (hp : Nat.blt pc 512 = true) (hc : K.1 pc = some (.invokevirtual x)) (ho : zml K.2.1 x = some (k, y)) (hk : Nat.blt k 2 = true) (hst : st' = as.reverse ++ (4, (a : Int)) :: st) (hna : zna y = as.length) (hG : G[a]? = some (.inl (zown y))) (hs : zsum st ≤ 8) (w : cw d (fun r G' R' V' => wp K d Q (pc + 3) L (r.toList ++ st) G' R' V') y ((4, (a : Int)) :: as) G R V) : wp K d Q pc L st' G R V := by
  refine wp_call st' hp hc (fun h ls hh call => ?_) w
  obtain ⟨fs, q1, q2, q3⟩ := hh.2.1 a _ hG
  rw [← znth_eq] at q1
  show hd_virt call zna zown (zml K.2.1 x) pc ls st' h = _
  unfold hd_virt
  rw [ho]
  have e1 : st'.drop (zna y) = (4, (a : Int)) :: st := by
    rw [hst, hna, ← List.length_reverse (as := as), List.drop_left]
  have e2 : st'.take (zna y) = as.reverse := by
    rw [hst, hna, ← List.length_reverse (as := as), List.take_left]
  have b1 : Nat.ble (zsum st) 8 = true := Nat.ble_eq_true_of_le hs
  have e4 : Nat.beq as.length (zna y) = true := by rw [hna]; exact Nat.beq_refl _
  simp only [hk, cond_true, e1, Int.toNat_natCast, q1, e2, Nat.beq_refl, b1, List.length_reverse, e4, Bool.and_self, List.reverse_reverse]
theorem wp_spec {x k y a : Nat} {as : List zV} (st' : List zV) (hp : Nat.blt pc 512 = true) (hc : K.1 pc = some (.invokespecial x)) (ho : zml K.2.1 x = some (k, y)) (hk : k = 4 ∨ k = 5) (hst : st' = as.reverse ++ (4, (a : Int)) :: st) (hna : zna y = as.length) (hs : zsum st ≤ 8) (w : cw d (fun r G' R' V' => wp K d Q (pc + 3) L (r.toList ++ st) G' R' V') y ((4, (a : Int)) :: as) G R V) : wp K d Q pc L st' G R V := by
  refine wp_call st' hp hc (fun h ls hh call => ?_) w
  show hd_spec call zna (zml K.2.1 x) pc ls st' h = _
  have e1 : st'.drop (zna y) = (4, (a : Int)) :: st := by
    rw [hst, hna, ← List.length_reverse (as := as), List.drop_left]
  have e2 : st'.take (zna y) = as.reverse := by
    rw [hst, hna, ← List.length_reverse (as := as), List.take_left]
  have b1 : Nat.ble (zsum st) 8 = true := Nat.ble_eq_true_of_le hs
  unfold hd_spec
  rw [ho]
  have e4 : Nat.beq as.length (zna y) = true := by rw [hna]; exact Nat.beq_refl _
  rcases hk with hk | hk <;> subst hk <;> simp only [e1, e2, b1, List.length_reverse, e4, Bool.and_self, cond_true, List.reverse_reverse] <;> rfl
theorem wp_stat {x k y : Nat} {as : List zV} (st' : List zV) (hp : Nat.blt pc 512 = true) (hc : K.1 pc = some (.invokestatic x)) (ho : zml K.2.1 x = some (k, y)) (hk : k = 2 ∨ k = 3) (hst : st' = as.reverse ++ st) (hna : zna y = as.length) (hs : zsum st ≤ 8) (w : cw d (fun r G' R' V' => wp K d Q (pc + 3) L (r.toList ++ st) G' R' V') y as G R V) : wp K d Q pc L st' G R V := by
  refine wp_call st' hp hc (fun h ls hh call => ?_) w
  show hd_stat call zna (zml K.2.1 x) pc ls st' h = _
  have e1 : st'.drop (zna y) = st := by
    rw [hst, hna, ← List.length_reverse (as := as), List.drop_left]
  have e2 : st'.take (zna y) = as.reverse := by
    rw [hst, hna, ← List.length_reverse (as := as), List.take_left]
  have b1 : Nat.ble (zsum st) 8 = true := Nat.ble_eq_true_of_le hs
  unfold hd_stat
  rw [ho]
  have e4 : Nat.beq as.length (zna y) = true := by rw [hna]; exact Nat.beq_refl _
  rcases hk with hk | hk <;> subst hk <;> simp only [e1, e2, b1, List.length_reverse, e4, Bool.and_self, cond_true, List.reverse_reverse]
theorem wp_obj {x y : Nat} {a : Int} (hp : Nat.blt pc 512 = true) (hc : K.1 pc = some (.invokespecial x)) (ho : zml K.2.1 x = some (6, y)) (hs : zsum st ≤ 8) (nx : wp K d Q (pc + 3) L st G R V) : wp K d Q pc L ((4, a) :: st) G R V := by
  refine wp_p hp hc (fun call h ls => ?_) nx
  show hd_spec call zna (zml K.2.1 x) pc ls ((4, a) :: st) h = _
  have b1 : Nat.ble (zsum st) 8 = true := Nat.ble_eq_true_of_le hs
  unfold hd_spec
  simp only [ho, b1, cond_true]
theorem wp_max {x y : Nat} {a b c : Int} (hp : Nat.blt pc 512 = true) (hc : K.1 pc = some (.invokestatic x)) (ho : zml K.2.1 x = some (8, y)) (hs : zsum st ≤ 8) (ha : i32 a) (hb : i32 b) (e : (if a < b then b else a) = c) (nx : wp K d Q (pc + 3) L ((0, c) :: st) G R V) : wp K d Q pc L ((0, b) :: (0, a) :: st) G R V := by
  refine wp_p hp hc (fun call h ls => ?_) nx
  show hd_stat call zna (zml K.2.1 x) pc ls ((0, b) :: (0, a) :: st) h = _
  have b1 : Nat.ble (zsum st) 8 = true := Nat.ble_eq_true_of_le hs
  unfold hd_stat
  simp only [ho, b1, cond_true, zfI_eq]
  have e2 : (Int32.ofInt a < Int32.ofInt b) = (a < b) := by
    rw [Int32.lt_iff_toInt_lt, z32 ha.1 ha.2, z32 hb.1 hb.2]
  rw [← e]
  by_cases q : a < b
  · rw [if_pos q, if_pos (by rw [e2]; exact q), z32 hb.1 hb.2]
  · rw [if_neg q, if_neg (by rw [e2]; exact q), z32 ha.1 ha.2]
theorem wp_ret {v : Option zV} {w : Nat} (hp : Nat.blt pc 512 = true) (hc : K.1 pc = some i) (hi : zisret i = true) (ho : ∀ (call : zCall) (h : zH) (ls : zL), zops call zb0 K.2.1 K.2.2.1 K.2.2.2.1 K.2.2.2.2 i pc ls st h = hd_ret K.2.2.2.1 w pc ls st h) (hv : ∀ (pc : Nat) (ls : zL) (h : zH), hd_ret K.2.2.2.1 w pc ls st h = some (.inr (v, h))) (q : Q v G R V) : wp K d Q pc L st G R V := by
  intro h ls hh hl
  exact ⟨v, h, G, R, V, hh, q, 0, 1, fun F hF d' hd n => zrun_r hp hc hi ((ho _ h ls).trans (hv pc ls h))⟩
theorem cw_wp {y : Nat} {as : List zV} {m0 : MethodName} {b0 : ByteArray} {o0 : Option FieldType} {p0 : Nat} (L0 : gL) (hy : zm y = some (m0, b0, K.2.2.1, o0, K.2.1, p0, K.2.2.2.1, K.2.2.2.2, K.1)) (hs : Nat.ble (zsum as) K.2.2.1 = true) (hL : LR (zargs as 0) L0) (w : wp K d Q 0 L0 [] G R V) : cw (d + 1) Q y as G R V := by
  intro h hh
  obtain ⟨r, h', G', R', V', a, b, F0, k, c⟩ := w h (zargs as 0) hh hL
  refine ⟨r, h', G', R', V', a, b, F0 + k, fun F hF d' hd' => ?_⟩
  match d', hd' with
  | d' + 1, hd' =>
    have := c F (by omega) d' (by omega) (F - k)
    rw [show F - k + k = F by omega] at this
    rw [← this]
    show zbody (zexec zb0 F d') zb0 F y as h = _
    unfold zbody
    rw [hy]
    dsimp only
    rw [hs, cond_true]
    rfl
end
