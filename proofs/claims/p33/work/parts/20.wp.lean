/-! heaps as numbers: G the cells' shapes, R the references, V the numbers -/
abbrev gS : Type := Nat ⊕ (Nat × Nat)
abbrev gV : Type := Nat → Int → Int
abbrev gL : Type := List (Option zV)
abbrev gQ : Type := Option zV → List gS → gV → gV → Prop
abbrev gK : Type := (Nat → Option Instr) × (Nat × (Nat × (Nat × Bool)))
def zb0 : zB := fun _ => (0, 0)
def rf (r : Int) : zV := match r with
  | .ofNat n => (4, .ofNat n)
  | .negSucc _ => (5, 0)
def en (t : Nat) (R V : gV) (a : Nat) (i : Int) : zV := match t with
  | 0 => (0, V a i)
  | 1 => (2, V a i)
  | _ => rf (R a i)
def ea (ty : Nat) (R V : gV) (a : Nat) (i : Int) : zV := match ty with
  | 0 => (0, V a i)
  | 1 => (2, V a i)
  | 2 => (0, V a i)
  | _ => rf (R a i)
abbrev i32 (x : Int) : Prop := -2147483648 ≤ x ∧ x ≤ 2147483647
abbrev i64 (x : Int) : Prop := -9223372036854775808 ≤ x ∧ x ≤ 9223372036854775807
def okf (t : Nat) (v : Int) : Prop := match t with
  | 0 => i32 v
  | 1 => i64 v
  | _ => True
def oka (ty : Nat) (v : Int) : Prop := match ty with
  | 0 => i32 v
  | 1 => i64 v
  | 2 => v = 0 ∨ v = 1
  | _ => True
def VR (G : List gS) (V : gV) : Prop := (∀ (a ci k t : Nat), G[a]? = some (.inl ci) → (zkinds ci)[k]? = some t → okf t (V a k)) ∧ (∀ (a ty n i : Nat), G[a]? = some (.inr (ty, n)) → i < n → oka ty (V a i)) ∧ (∀ (a ty n : Nat), G[a]? = some (.inr (ty, n)) → n ≤ 1000000 ∧ ty < 6)
def HR (h : zH) (G : List gS) (R V : gV) : Prop :=
  h.length = G.length ∧
  (∀ (a ci : Nat), G[a]? = some (.inl ci) → ∃ fs : List zV, h[a]? = some (.inl (ci, fs)) ∧ fs.length = (zkinds ci).length ∧ ∀ (k t : Nat), (zkinds ci)[k]? = some t → fs[k]? = some (en t R V a k)) ∧
  (∀ (a ty n : Nat), G[a]? = some (.inr (ty, n)) → ∃ f : Nat → zV, h[a]? = some (.inr (ty, n, f)) ∧ ∀ i, i < n → f i = ea ty R V a i) ∧ VR G V ∧ (∀ (a : Nat) (i : Int), G.length ≤ a → V a i = 0 ∧ R a i = -1)
def LR (ls : zL) (L : gL) : Prop := ∀ (i : Nat) (v : zV), L[i]? = some (some v) → zget ls i = some v
def wr (V : gV) (a : Nat) (i v : Int) : gV := fun a' i' => if a' = a ∧ i' = i then v else V a' i'
noncomputable def gX (K : gK) (F d n pc : Nat) (ls : zL) (st : List zV) (h : zH) : Option (Option zV × zH) := zrun (zops (zexec zb0 F d) zb0 K.2.1 K.2.2.1 K.2.2.2.1 K.2.2.2.2) K.1 n pc ls st h
def wp (K : gK) (d : Nat) (Q : gQ) (pc : Nat) (L : gL) (st : List zV) (G : List gS) (R V : gV) : Prop :=
  ∀ (h : zH) (ls : zL), HR h G R V → LR ls L → ∃ (r : Option zV) (h' : zH) (G' : List gS) (R' V' : gV), HR h' G' R' V' ∧ Q r G' R' V' ∧ ∃ F0 k : Nat, ∀ F, F0 ≤ F → ∀ d', d ≤ d' → ∀ n, gX K F d' (n + k) pc ls st h = some (r, h')
def cw (d : Nat) (Q : gQ) (y : Nat) (as : List zV) (G : List gS) (R V : gV) : Prop :=
  ∀ (h : zH), HR h G R V → ∃ (r : Option zV) (h' : zH) (G' : List gS) (R' V' : gV), HR h' G' R' V' ∧ Q r G' R' V' ∧ ∃ F0 : Nat, ∀ F, F0 ≤ F → ∀ d', d ≤ d' → zexec zb0 F d' y as h = some (r, h')
theorem wp_mono {K : gK} {d : Nat} {Q Q' : gQ} {pc : Nat} {L : gL} {st : List zV} {G : List gS} {R V : gV} (hQ : ∀ r G R V, Q r G R V → Q' r G R V) (w : wp K d Q pc L st G R V) : wp K d Q' pc L st G R V := by
  intro h ls hh hl
  obtain ⟨r, h', G', R', V', a, b, c⟩ := w h ls hh hl
  exact ⟨r, h', G', R', V', a, hQ _ _ _ _ b, c⟩
theorem cw_mono {d d2 : Nat} {Q Q' : gQ} {y : Nat} {as : List zV} {G : List gS} {R V : gV} (hd : d ≤ d2) (w : cw d Q y as G R V) (hQ : ∀ r G R V, Q r G R V → Q' r G R V) : cw d2 Q' y as G R V := by
  intro h hh
  obtain ⟨r, h', G', R', V', a, b, F0, c⟩ := w h hh
  exact ⟨r, h', G', R', V', a, hQ _ _ _ _ b, F0, fun F hF d' hd' => c F hF d' (by omega)⟩
theorem wp_rng {K : gK} {d : Nat} {Q : gQ} {pc : Nat} {L : gL} {st : List zV} {G : List gS} {R V : gV} (w : VR G V → wp K d Q pc L st G R V) : wp K d Q pc L st G R V := fun h ls hh hl => w hh.2.2.2.1 h ls hh hl
theorem wp_wk {K : gK} {d : Nat} {Q : gQ} {pc : Nat} {L L' : gL} {st : List zV} {G : List gS} {R V : gV} (hL : ∀ (i : Nat) (v : zV), L'[i]? = some (some v) → L[i]? = some (some v)) (w : wp K d Q pc L' st G R V) : wp K d Q pc L st G R V := fun h ls hh hl => w h ls hh (fun i v e => hl i v (hL i v e))
theorem wp_s {K : gK} {d : Nat} {Q : gQ} {pc pc' : Nat} {L L' : gL} {st st' : List zV} {G G' : List gS} {R V R' V' : gV} {i : Instr} (hp : Nat.blt pc 512 = true) (hc : K.1 pc = some i) (ho : ∀ (h : zH) (ls : zL), HR h G R V → LR ls L → ∃ (h' : zH) (ls' : zL), HR h' G' R' V' ∧ LR ls' L' ∧ ∀ F d', zops (zexec zb0 F d') zb0 K.2.1 K.2.2.1 K.2.2.2.1 K.2.2.2.2 i pc ls st h = some (.inl (pc', ls', st', h'))) (nx : wp K d Q pc' L' st' G' R' V') : wp K d Q pc L st G R V := by
  intro h ls hh hl
  obtain ⟨h1, ls1, a, b, c⟩ := ho h ls hh hl
  obtain ⟨r, h2, G2, R2, V2, u, v, F0, k, w⟩ := nx h1 ls1 a b
  refine ⟨r, h2, G2, R2, V2, u, v, F0, k + 1, fun F hF d' hd n => ?_⟩
  exact (zrun_s hp hc (c F d')).trans (w F hF d' hd n)
/-- a step that leaves heap and locals -/
theorem wp_p {K : gK} {d : Nat} {Q : gQ} {pc pc' : Nat} {L : gL} {st st' : List zV} {G : List gS} {R V : gV} {i : Instr} (hp : Nat.blt pc 512 = true) (hc : K.1 pc = some i) (ho : ∀ (call : zCall) (h : zH) (ls : zL), zops call zb0 K.2.1 K.2.2.1 K.2.2.2.1 K.2.2.2.2 i pc ls st h = some (.inl (pc', ls, st', h))) (nx : wp K d Q pc' L st' G R V) : wp K d Q pc L st G R V := wp_s hp hc (fun h ls hh hl => ⟨h, ls, hh, hl, fun F d' => ho (zexec zb0 F d') h ls⟩) nx
theorem wp_ld {K : gK} {d : Nat} {Q : gQ} {pc : Nat} {L : gL} {st : List zV} {G : List gS} {R V : gV} {i : Instr} {t : zV → Bool} {n x : Nat} (v : zV) (hp : Nat.blt pc 512 = true) (hc : K.1 pc = some i) (ho : ∀ (call : zCall), zops call zb0 K.2.1 K.2.2.1 K.2.2.2.1 K.2.2.2.2 i = hd_load t n x) (hL : L[x]? = some (some v)) (ht : t v = true) (nx : wp K d Q (pc + n) L (v :: st) G R V) : wp K d Q pc L st G R V := by
  refine wp_s hp hc (fun h ls hh hl => ⟨h, ls, hh, hl, fun F d' => ?_⟩) nx
  rw [ho]
  unfold hd_load
  rw [hl x v hL]
  dsimp only
  rw [ht]
  rfl
def lcat (o : Option zV) : Bool := match o with
  | some w => Nat.beq (zcat w) 2
  | none => false
def lset (v : zV) : gL → Nat → gL
  | [], 0 => [some v]
  | [], n + 1 => none :: lset v [] n
  | _ :: r, 0 => some v :: r
  | a :: r, n + 1 => (cond (Nat.beq n 0 && lcat a) none a) :: lset v r n
theorem zget_nil (i : Nat) : zget [] i = none := rfl
theorem zget_cons (q : Nat × zV) (ls : zL) (i : Nat) : zget (q :: ls) i = cond (Nat.beq q.1 i) (some q.2) (zget ls i) := rfl
theorem zget_filter {p : Nat × zV → Bool} {i : Nat} {v : zV} : ∀ (ls : zL), zget ls i = some v → (∀ w, p (i, w) = true ∨ w ≠ v) → zget (ls.filter p) i = some v := by
  intro ls
  induction ls with
  | nil => intro h; cases h
  | cons q r ih =>
    intro h hp
    rw [zget_cons] at h
    by_cases e : Nat.beq q.1 i = true
    · rw [e] at h
      have hv : q.2 = v := by simpa using h
      have hi : q.1 = i := Nat.eq_of_beq_eq_true e
      have hq : p q = true := by
        have := hp q.2
        rcases this with h1 | h1
        · rw [← hi] at h1; exact h1
        · exact absurd hv h1
      rw [List.filter_cons_of_pos hq, zget_cons, e]
      simp [hv]
    · have e' : Nat.beq q.1 i = false := by
        cases hb : Nat.beq q.1 i with
        | false => rfl
        | true => exact absurd hb e
      rw [e'] at h
      have h2 := ih h hp
      by_cases hq : p q = true
      · rw [List.filter_cons_of_pos hq, zget_cons, e']
        exact h2
      · rw [List.filter_cons_of_neg hq]
        exact h2
theorem lset_spec (v : zV) : ∀ (L : gL) (n i : Nat) (w : zV), (lset v L n)[i]? = some (some w) → (i = n ∧ w = v) ∨ (i ≠ n ∧ L[i]? = some (some w) ∧ ¬ (i + 1 = n ∧ Nat.beq (zcat w) 2 = true)) := by
  intro L
  induction L with
  | nil =>
    intro n
    induction n with
    | zero =>
      intro i w h
      match i with
      | 0 => left; simp [lset] at h; exact ⟨rfl, h.symm⟩
      | i + 1 => simp [lset] at h
    | succ n ih =>
      intro i w h
      match i with
      | 0 => simp [lset] at h
      | i + 1 =>
        have h' : (lset v [] n)[i]? = some (some w) := by simpa [lset] using h
        rcases ih i w h' with h1 | h1
        · left; exact ⟨by omega, h1.2⟩
        · simp at h1
  | cons a r ih =>
    intro n i w h
    match n, i with
    | 0, 0 => left; simp [lset] at h; exact ⟨rfl, h.symm⟩
    | 0, i + 1 =>
      right
      have h' : r[i]? = some (some w) := by simpa [lset] using h
      exact ⟨by omega, by simpa using h', by omega⟩
    | n + 1, 0 =>
      right
      have h' : cond (Nat.beq n 0 && lcat a) none a = some w := by simpa [lset] using h
      cases hb : (Nat.beq n 0 && lcat a) with
      | true => rw [hb] at h'; cases h'
      | false =>
        rw [hb] at h'
        have ha : a = some w := h'
        refine ⟨by omega, by simp [ha], ?_⟩
        intro q
        have hn : n = 0 := by omega
        rw [hn, ha] at hb
        simp [lcat, q.2] at hb
    | n + 1, i + 1 =>
      have h' : (lset v r n)[i]? = some (some w) := by simpa [lset] using h
      rcases ih n i w h' with h1 | h1
      · left; exact ⟨by omega, h1.2⟩
      · right; exact ⟨by omega, by simpa using h1.2.1, fun q => h1.2.2 ⟨by omega, q.2⟩⟩
theorem LR_set {ls : zL} {L : gL} (hl : LR ls L) (n : Nat) (v : zV) : LR ((n, v) :: ls.filter (zdrop n)) (lset v L n) := by
  intro i w h
  rcases lset_spec v L n i w h with h1 | h1
  · rw [zget_cons, h1.1, h1.2]
    simp
  · rw [zget_cons]
    have e : Nat.beq n i = false := by
      cases hb : Nat.beq n i with
      | false => rfl
      | true => exact absurd (Nat.eq_of_beq_eq_true hb).symm h1.1
    rw [show (n, v).1 = n from rfl, e]
    refine zget_filter ls (hl i w h1.2.1) (fun x => ?_)
    by_cases ex : x = w
    · left
      subst ex
      unfold zdrop
      have e2 : Nat.beq i n = false := by
        cases hb : Nat.beq i n with
        | false => rfl
        | true => exact absurd (Nat.eq_of_beq_eq_true hb) h1.1
      have e3 : (Nat.beq (i + 1) n && Nat.beq (zcat x) 2) = false := by
        cases hb : (Nat.beq (i + 1) n && Nat.beq (zcat x) 2) with
        | false => rfl
        | true =>
          rw [Bool.and_eq_true] at hb
          exact absurd ⟨Nat.eq_of_beq_eq_true hb.1, hb.2⟩ h1.2.2
      simp only [e2, e3, Bool.not_false, Bool.and_self]
    · right; exact ex
def lset2 (v : zV) (L : gL) (n : Nat) : gL := lset v (L.set (n + 1) none) n
theorem LR_set2 {ls : zL} {L : gL} (hl : LR ls L) (n : Nat) (v : zV) : LR ((n, v) :: ls.filter (zdrop2 n)) (lset2 v L n) := by
  intro i w h
  rcases lset_spec v _ n i w h with h1 | h1
  · rw [zget_cons, h1.1, h1.2]
    simp
  · rw [zget_cons]
    have e : Nat.beq n i = false := by
      cases hb : Nat.beq n i with
      | false => rfl
      | true => exact absurd (Nat.eq_of_beq_eq_true hb).symm h1.1
    rw [show (n, v).1 = n from rfl, e]
    have h2 := h1.2.1
    rw [List.getElem?_set] at h2
    by_cases en1 : n + 1 = i
    · rw [if_pos en1] at h2
      split at h2 <;> simp at h2
    rw [if_neg en1] at h2
    refine zget_filter ls (hl i w h2) (fun x => ?_)
    by_cases ex : x = w
    · left
      subst ex
      unfold zdrop2
      have e2 : Nat.beq i n = false := by
        cases hb : Nat.beq i n with
        | false => rfl
        | true => exact absurd (Nat.eq_of_beq_eq_true hb) h1.1
      have e4 : Nat.beq i (n + 1) = false := by
        cases hb : Nat.beq i (n + 1) with
        | false => rfl
        | true => exact absurd (Nat.eq_of_beq_eq_true hb).symm en1
      have e3 : (Nat.beq (i + 1) n && Nat.beq (zcat x) 2) = false := by
        cases hb : (Nat.beq (i + 1) n && Nat.beq (zcat x) 2) with
        | false => rfl
        | true =>
          rw [Bool.and_eq_true] at hb
          exact absurd ⟨Nat.eq_of_beq_eq_true hb.1, hb.2⟩ h1.2.2
      simp only [e2, e3, e4, Bool.not_false, Bool.and_self]
    · right; exact ex
section
variable {K : gK} {d : Nat} {Q : gQ} {pc : Nat} {L : gL} {st : List zV} {G : List gS} {R V : gV} {i : Instr}
theorem wp_sto {t : zV → Bool} {n x : Nat} {v : zV} (L' : gL) (hp : Nat.blt pc 512 = true) (hc : K.1 pc = some i) (ho : ∀ (call : zCall), zops call zb0 K.2.1 K.2.2.1 K.2.2.2.1 K.2.2.2.2 i = hd_store t K.2.2.1 n x) (ht : t v = true) (hn : Nat.blt x K.2.2.1 = true) (hL : lset v L x = L') (nx : wp K d Q (pc + n) L' st G R V) : wp K d Q pc L (v :: st) G R V := by
  subst hL
  refine wp_s hp hc (fun h ls hh hl => ⟨h, (x, v) :: ls.filter (zdrop x), hh, LR_set hl x v, fun F d' => ?_⟩) nx
  rw [ho]
  unfold hd_store
  dsimp only
  rw [ht, hn]
  rfl
theorem wp_lsto {n x : Nat} {v : zV} (L' : gL) (hp : Nat.blt pc 512 = true) (hc : K.1 pc = some i) (ho : ∀ (call : zCall), zops call zb0 K.2.1 K.2.2.1 K.2.2.2.1 K.2.2.2.2 i = hd_lstore K.2.2.1 n x) (ht : zisJ v = true) (hn : Nat.blt (x + 1) K.2.2.1 = true) (hL : lset2 v L x = L') (nx : wp K d Q (pc + n) L' st G R V) : wp K d Q pc L (v :: st) G R V := by
  subst hL
  refine wp_s hp hc (fun h ls hh hl => ⟨h, (x, v) :: ls.filter (zdrop2 x), hh, LR_set2 hl x v, fun F d' => ?_⟩) nx
  rw [ho]
  unfold hd_lstore
  dsimp only
  rw [ht, hn]
  rfl
theorem wp_inc {x : Nat} {k a c : Int} (L' : gL) (hp : Nat.blt pc 512 = true) (hc : K.1 pc = some (.iinc x k)) (hn : Nat.blt x K.2.2.1 = true) (hv : L[x]? = some (some (0, a))) (hb : i32 (a + k)) (he : a + k = c) (hL : lset (0, c) L x = L') (nx : wp K d Q (pc + 3) L' st G R V) : wp K d Q pc L st G R V := by
  subst hL
  subst he
  refine wp_s hp hc (fun h ls hh hl => ⟨h, (x, (0, a + k)) :: ls.filter (zdrop x), hh, LR_set hl x (0, a + k), fun F d' => ?_⟩) nx
  show hd_iinc K.2.2.1 x k pc ls st h = _
  unfold hd_iinc
  simp only [hl x (0, a) hv, hn, cond_true, zfI_eq, z32_add, z32 hb.1 hb.2]
/-! numbers -/
theorem wp_bin {f : Int32 → Int32 → Int32} {a b c : Int} (hp : Nat.blt pc 512 = true) (hc : K.1 pc = some i) (ho : ∀ (call : zCall), zops call zb0 K.2.1 K.2.2.1 K.2.2.2.1 K.2.2.2.2 i = hd_bin f) (e : (f (Int32.ofInt a) (Int32.ofInt b)).toInt = c) (nx : wp K d Q (pc + 1) L ((0, c) :: st) G R V) : wp K d Q pc L ((0, b) :: (0, a) :: st) G R V := by
  subst e
  refine wp_p hp hc (fun call h ls => ?_) nx
  rw [ho]
  unfold hd_bin
  simp only [zfI_eq]
theorem wp_div {f : Int32 → Int32 → Int32} {a b c : Int} (hp : Nat.blt pc 512 = true) (hc : K.1 pc = some i) (ho : ∀ (call : zCall), zops call zb0 K.2.1 K.2.2.1 K.2.2.2.1 K.2.2.2.2 i = hd_div f) (hb : Int32.ofInt b ≠ 0) (e : (f (Int32.ofInt a) (Int32.ofInt b)).toInt = c) (nx : wp K d Q (pc + 1) L ((0, c) :: st) G R V) : wp K d Q pc L ((0, b) :: (0, a) :: st) G R V := by
  subst e
  refine wp_p hp hc (fun call h ls => ?_) nx
  rw [ho]
  unfold hd_div
  simp only [decide_eq_false hb, cond_false, zfI_eq]
theorem wp_un {f : Int32 → Int32} {a c : Int} (hp : Nat.blt pc 512 = true) (hc : K.1 pc = some i) (ho : ∀ (call : zCall), zops call zb0 K.2.1 K.2.2.1 K.2.2.2.1 K.2.2.2.2 i = hd_un f) (e : (f (Int32.ofInt a)).toInt = c) (nx : wp K d Q (pc + 1) L ((0, c) :: st) G R V) : wp K d Q pc L ((0, a) :: st) G R V := by
  subst e
  refine wp_p hp hc (fun call h ls => ?_) nx
  rw [ho]
  unfold hd_un
  simp only [zfI_eq]
theorem wp_lbin {f : Int64 → Int64 → Int64} {a b c : Int} (hp : Nat.blt pc 512 = true) (hc : K.1 pc = some i) (ho : ∀ (call : zCall), zops call zb0 K.2.1 K.2.2.1 K.2.2.2.1 K.2.2.2.2 i = hd_lbin f) (e : (f (Int64.ofInt a) (Int64.ofInt b)).toInt = c) (nx : wp K d Q (pc + 1) L ((2, c) :: st) G R V) : wp K d Q pc L ((2, b) :: (2, a) :: st) G R V := by
  subst e
  refine wp_p hp hc (fun call h ls => ?_) nx
  rw [ho]
  unfold hd_lbin
  simp only [zfI_eq]
theorem wp_ldiv {f : Int64 → Int64 → Int64} {a b c : Int} (hp : Nat.blt pc 512 = true) (hc : K.1 pc = some i) (ho : ∀ (call : zCall), zops call zb0 K.2.1 K.2.2.1 K.2.2.2.1 K.2.2.2.2 i = hd_ldiv f) (hb : Int64.ofInt b ≠ 0) (e : (f (Int64.ofInt a) (Int64.ofInt b)).toInt = c) (nx : wp K d Q (pc + 1) L ((2, c) :: st) G R V) : wp K d Q pc L ((2, b) :: (2, a) :: st) G R V := by
  subst e
  refine wp_p hp hc (fun call h ls => ?_) nx
  rw [ho]
  unfold hd_ldiv
  simp only [decide_eq_false hb, cond_false, zfI_eq]
theorem wp_lun {f : Int64 → Int64} {a c : Int} (hp : Nat.blt pc 512 = true) (hc : K.1 pc = some i) (ho : ∀ (call : zCall), zops call zb0 K.2.1 K.2.2.1 K.2.2.2.1 K.2.2.2.2 i = hd_lun f) (e : (f (Int64.ofInt a)).toInt = c) (nx : wp K d Q (pc + 1) L ((2, c) :: st) G R V) : wp K d Q pc L ((2, a) :: st) G R V := by
  subst e
  refine wp_p hp hc (fun call h ls => ?_) nx
  rw [ho]
  unfold hd_lun
  simp only [zfI_eq]
theorem wp_lsh {f : Int64 → Int32 → Int64} {a b c : Int} (hp : Nat.blt pc 512 = true) (hc : K.1 pc = some i) (ho : ∀ (call : zCall), zops call zb0 K.2.1 K.2.2.1 K.2.2.2.1 K.2.2.2.2 i = hd_lsh f) (e : (f (Int64.ofInt a) (Int32.ofInt b)).toInt = c) (nx : wp K d Q (pc + 1) L ((2, c) :: st) G R V) : wp K d Q pc L ((0, b) :: (2, a) :: st) G R V := by
  subst e
  refine wp_p hp hc (fun call h ls => ?_) nx
  rw [ho]
  unfold hd_lsh
  simp only [zfI_eq]
theorem wp_i2l {a : Int} (hp : Nat.blt pc 512 = true) (hc : K.1 pc = some .i2l) (ha : i32 a) (nx : wp K d Q (pc + 1) L ((2, a) :: st) G R V) : wp K d Q pc L ((0, a) :: st) G R V := by
  refine wp_p hp hc (fun call h ls => ?_) nx
  show hd_i2l zb0 pc ls ((0, a) :: st) h = _
  unfold hd_i2l
  simp only [zfI_eq, Int32.toInt_toInt64, z32 ha.1 ha.2]
theorem wp_l2i {a : Int} (hp : Nat.blt pc 512 = true) (hc : K.1 pc = some .l2i) (nx : wp K d Q (pc + 1) L ((0, (Int64.ofInt a).toInt32.toInt) :: st) G R V) : wp K d Q pc L ((2, a) :: st) G R V := by
  refine wp_p hp hc (fun call h ls => ?_) nx
  show hd_l2i pc ls ((2, a) :: st) h = _
  unfold hd_l2i
  simp only [zfI_eq]
def sg (a b : Int) : Int := if a < b then -1 else if b < a then 1 else 0
theorem zrJ_c {bd : zB} {a : Int} (ha : i64 a) : zrJ bd (2, a) = some (a, a) := by
  unfold zrJ
  simp only [zfI_eq, Int64.toInt_ofInt_of_le (show -2 ^ 63 ≤ a by have := ha.1; omega) (show a < 2 ^ 63 by have := ha.2; omega)]
theorem zeq_c (a b : Int) : zeq (a, a) (b, b) = some (decide (a = b)) := by
  unfold zeq
  by_cases h : a < b
  · have : ¬ a = b := by omega
    simp [h, this]
  · by_cases h2 : b < a
    · have : ¬ a = b := by omega
      simp [h, h2, this]
    · have : a = b := by omega
      simp [this]
theorem wp_lcmp {a b : Int} (hp : Nat.blt pc 512 = true) (hc : K.1 pc = some .lcmp) (ha : i64 a) (hb : i64 b) (nx : wp K d Q (pc + 1) L ((0, sg a b) :: st) G R V) : wp K d Q pc L ((2, b) :: (2, a) :: st) G R V := by
  refine wp_p hp hc (fun call h ls => ?_) nx
  show hd_lcmp zb0 pc ls ((2, b) :: (2, a) :: st) h = _
  unfold hd_lcmp
  simp only [zrJ_c ha, zrJ_c hb, zlt_c, zeq_c]
  by_cases h1 : a < b
  · simp [h1, sg]
  · by_cases h2 : b < a
    · simp [h1, h2, sg]
    · have h3 : a = b := by omega
      simp [h3, sg]
/-! branches -/
theorem zbr_c {o : Option Bool} {x : Bool} {off : Int} {t : Nat} {ls : zL} {h : zH} (ho : o = some x) (ht : (pc : Int) + off = (t : Int)) : zbr o pc off ls st h = some (.inl (cond x t (pc + 3), ls, st, h)) := by
  subst ho
  unfold zbr
  dsimp only
  rw [ht]
theorem wp_go {off : Int} (t : Nat) (hp : Nat.blt pc 512 = true) (hc : K.1 pc = some (.goto off)) (ht : (pc : Int) + off = (t : Int)) (nx : wp K d Q t L st G R V) : wp K d Q pc L st G R V := by
  refine wp_p hp hc (fun call h ls => ?_) nx
  show zjmp pc off ls st h = _
  unfold zjmp
  rw [ht]
theorem wp_br {o : Option Bool} {x : Bool} {off : Int} (t : Nat) (st' : List zV) (hp : Nat.blt pc 512 = true) (hc : K.1 pc = some i) (ho : ∀ (call : zCall) (h : zH) (ls : zL), zops call zb0 K.2.1 K.2.2.1 K.2.2.2.1 K.2.2.2.2 i pc ls st' h = zbr o pc off ls st h) (e : o = some x) (ht : (pc : Int) + off = (t : Int)) (n1 : x = true → wp K d Q t L st G R V) (n2 : x = false → wp K d Q (pc + 3) L st G R V) : wp K d Q pc L st' G R V := by
  cases x with
  | true => exact wp_p hp hc (fun call h ls => (ho call h ls).trans (zbr_c e ht)) (n1 rfl)
  | false => exact wp_p hp hc (fun call h ls => (ho call h ls).trans (zbr_c e ht)) (n2 rfl)
def cP (c : Jvm.ClassFile.Cond) (a b : Int) : Prop := match c with
  | .eq => a = b
  | .ne => ¬ a = b
  | .lt => a < b
  | .ge => ¬ a < b
  | .gt => b < a
  | .le => ¬ b < a
theorem zcmp_t {c : Jvm.ClassFile.Cond} {a b : Int} (h : cP c a b) : zcmp c (a, a) (b, b) = some true := by
  cases c <;> simp only [cP] at h <;> simp [zcmp, zeq_c, zlt_c, h]
  all_goals omega
theorem zcmp_f {c : Jvm.ClassFile.Cond} {a b : Int} (h : ¬ cP c a b) : zcmp c (a, a) (b, b) = some false := by
  cases c <;> simp only [cP] at h <;> simp [zcmp, zeq_c, zlt_c, h]
  all_goals omega
theorem wp_icmp {c : Jvm.ClassFile.Cond} {off a b : Int} (t : Nat) (hp : Nat.blt pc 512 = true) (hc : K.1 pc = some (.if_icmp c off)) (ht : (pc : Int) + off = (t : Int)) (ha : i32 a) (hb : i32 b) (n1 : cP c a b → wp K d Q t L st G R V) (n2 : ¬ cP c a b → wp K d Q (pc + 3) L st G R V) : wp K d Q pc L ((0, b) :: (0, a) :: st) G R V := by
  by_cases h : cP c a b
  · refine wp_br t _ hp hc (fun call h ls => ?_) (zcmp_t h) ht (fun _ => n1 h) (fun q => by cases q)
    show hd_icmp zb0 c off pc ls ((0, b) :: (0, a) :: st) _ = _
    unfold hd_icmp
    simp only [zrI_c ha.1 ha.2, zrI_c hb.1 hb.2]
  · refine wp_br t _ hp hc (fun call h ls => ?_) (zcmp_f h) ht (fun q => by cases q) (fun _ => n2 h)
    show hd_icmp zb0 c off pc ls ((0, b) :: (0, a) :: st) _ = _
    unfold hd_icmp
    simp only [zrI_c ha.1 ha.2, zrI_c hb.1 hb.2]
theorem wp_if {c : Jvm.ClassFile.Cond} {off a : Int} (t : Nat) (hp : Nat.blt pc 512 = true) (hc : K.1 pc = some (.ifCond c off)) (ht : (pc : Int) + off = (t : Int)) (ha : i32 a) (n1 : cP c a 0 → wp K d Q t L st G R V) (n2 : ¬ cP c a 0 → wp K d Q (pc + 3) L st G R V) : wp K d Q pc L ((0, a) :: st) G R V := by
  by_cases h : cP c a 0
  · refine wp_br t _ hp hc (fun call h ls => ?_) (zcmp_t h) ht (fun _ => n1 h) (fun q => by cases q)
    show hd_if zb0 c off pc ls ((0, a) :: st) _ = _
    unfold hd_if
    simp only [zrI_c ha.1 ha.2]
  · refine wp_br t _ hp hc (fun call h ls => ?_) (zcmp_f h) ht (fun q => by cases q) (fun _ => n2 h)
    show hd_if zb0 c off pc ls ((0, a) :: st) _ = _
    unfold hd_if
    simp only [zrI_c ha.1 ha.2]
theorem rf_nat (n : Nat) : rf (n : Int) = (4, (n : Int)) := rfl
theorem rf_neg {r : Int} (h : r < 0) : rf r = (5, 0) := by
  match r, h with
  | .negSucc _, _ => rfl
  | .ofNat n, h => exact absurd h (by simp)
theorem wp_null {r : Int} {b : Bool} {off : Int} (t : Nat) (hp : Nat.blt pc 512 = true) (hc : K.1 pc = some i) (ho : ∀ (call : zCall), zops call zb0 K.2.1 K.2.2.1 K.2.2.2.1 K.2.2.2.2 i = hd_null b off) (ht : (pc : Int) + off = (t : Int)) (n1 : (if b = true then r < 0 else ¬ r < 0) → wp K d Q t L st G R V) (n2 : ¬ (if b = true then r < 0 else ¬ r < 0) → wp K d Q (pc + 3) L st G R V) : wp K d Q pc L (rf r :: st) G R V := by
  match r with
  | .negSucc m =>
    refine wp_br (o := some b) (x := b) t _ hp hc (fun call h ls => ?_) rfl ht (fun q => n1 ?_) (fun q => n2 ?_)
    · rw [ho]; rfl
    · rw [if_pos q]; exact Int.negSucc_lt_zero m
    · rw [q]; simp
  | .ofNat m =>
    refine wp_br (o := some (!b)) (x := !b) t _ hp hc (fun call h ls => ?_) rfl ht (fun q => n1 ?_) (fun q => n2 ?_)
    · rw [ho]; rfl
    · have : b = false := by simpa using q
      rw [this]; simp
    · have : b = true := by simpa using q
      rw [this]; simp
end
