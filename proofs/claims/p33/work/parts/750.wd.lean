/-! what group answers: one relation, that fixes it -/
def pK (r : Int → Int) (n : Int) : Prop := (∀ q, 0 ≤ q → q < n → 0 ≤ r q ∧ r q < n) ∧ (∀ p q, 0 ≤ p → p < n → 0 ≤ q → q < n → r p = r q → p = q)
def sOK (sf : Int → Int → Int) (n : Int) : Prop := ∀ s, 0 ≤ s → s < 4 → pK (sf s) n
def isW (sf : Int → Int → Int) (c : Int) : Prop := ∃ w : List Int, (∀ s, s ∈ w → 0 ≤ s ∧ s < 4) ∧ c = cd (ev sf w)
def manyW (sf : Int → Int → Int) : Prop := ∃ F : Int → Int, (∀ i, 0 ≤ i → i ≤ 120 → isW sf (F i)) ∧ ∀ i j, 0 ≤ i → i < j → j ≤ 120 → F i ≠ F j
def gAns (sf : Int → Int → Int) (n v : Int) : Prop := (¬ (1 ≤ n ∧ n ≤ 8) ∧ v = -1) ∨ ((1 ≤ n ∧ n ≤ 8) ∧ ((v = -6 ∧ ¬ sOK sf n) ∨ (sOK sf n ∧ ((v = -5 ∧ manyW sf) ∨ ∃ (cs : Int → Int) (N : Int) (mul : Int → Int → Int), (1 ≤ N ∧ N ≤ 120) ∧ ris cs N ∧ (∀ c, In1 cs N c ↔ isW sf c) ∧ isM cs N mul ∧ ((v = N ∧ ¬ tooMany N mul) ∨ (v = -5 ∧ tooMany N mul))))))
section
variable {sf : Int → Int → Int} {cs mc scf : Int → Int} {mk N n v v' : Int}
theorem many_no (hN : 1 ≤ N ∧ N ≤ 120) (h : ∀ c, isW sf c → In1 cs N c) (m : manyW sf) : False := by
  obtain ⟨F, f1, f2⟩ := m
  have ex : ∀ i, ∃ j, (0 ≤ i → i ≤ 120 → 0 ≤ j ∧ j < N ∧ cs j = F i) := fun i => by
    by_cases q : 0 ≤ i ∧ i ≤ 120
    · obtain ⟨j, a, b, c⟩ := h _ (f1 i q.1 q.2)
      exact ⟨j, fun _ _ => ⟨a, b, c⟩⟩
    · exact ⟨0, fun a b => absurd ⟨a, b⟩ q⟩
  have ch := fun i => Classical.choose_spec (ex i)
  have := inj_le (φ := fun i => Classical.choose (ex i)) (n := 121) (N := N) (by omega) (fun i i0 i1 => ⟨(ch i i0 (by omega)).1, (ch i i0 (by omega)).2.1⟩) (fun i j i0 ij j1 e => f2 i j i0 ij (by omega) (by
    have a := (ch i i0 (by omega)).2.2
    have b := (ch j (by omega) (by omega)).2.2
    rw [← a, ← b]
    exact congrArg cs e))
  omega
theorem gAns_uni (h : gAns sf n v) (h' : gAns sf n v') : v = v' := by
  rcases h with ⟨a, b⟩ | ⟨a, h⟩
  · rcases h' with ⟨a', b'⟩ | ⟨a', _⟩
    · rw [b, b']
    · exact absurd a' a
  · rcases h' with ⟨a', _⟩ | ⟨_, h'⟩
    · exact absurd a a'
    · rcases h with ⟨b, c⟩ | ⟨b, h⟩
      · rcases h' with ⟨b', c'⟩ | ⟨b', _⟩
        · rw [b, b']
        · exact absurd b' c
      · rcases h' with ⟨b', c'⟩ | ⟨_, h'⟩
        · exact absurd b c'
        · rcases h with ⟨e, m⟩ | ⟨cs, N, mul, n1, ri, wi, im, h⟩
          · rcases h' with ⟨e', m'⟩ | ⟨cs', N', mul', n1', ri', wi', im', h'⟩
            · rw [e, e']
            · exact (many_no n1' (fun c hc => (wi' c).mpr hc) m).elim
          · rcases h' with ⟨e', m'⟩ | ⟨cs', N', mul', n1', ri', wi', im', h'⟩
            · exact (many_no n1 (fun c hc => (wi c).mpr hc) m').elim
            · have eq := ris_eq ri ri' (fun i i0 i1 => by
                obtain ⟨j, a, b, c⟩ := (wi' _).mpr ((wi _).mp ⟨i, i0, i1, rfl⟩)
                exact ⟨j, a, b, c⟩) (fun i i0 i1 => by
                obtain ⟨j, a, b, c⟩ := (wi _).mpr ((wi' _).mp ⟨i, i0, i1, rfl⟩)
                exact ⟨j, a, b, c⟩)
              have NN : N = N' := by
                have a := (eq N.toNat).2
                have b := (eq N'.toNat).1
                rw [Int.toNat_of_nonneg (by omega)] at a b
                apply Classical.byContradiction
                intro q
                by_cases l : N < N'
                · have := (a l).1; omega
                · have := (b (by omega)).1; omega
              subst NN
              have ce : ∀ i, 0 ≤ i → i < N → cs i = cs' i := fun i i0 i1 => by
                have := (eq i.toNat).1 (by omega)
                rw [Int.toNat_of_nonneg i0] at this
                exact this.2
              have me : ∀ s t, 0 ≤ s → s < N → 0 ≤ t → t < N → mul s t = mul' s t := fun s t s0 s1 t0 t1 => by
                have m1 := im s t s0 s1 t0 t1
                have m2 := im' s t s0 s1 t0 t1
                refine ris_inj ri ⟨m1.1, m1.2.1⟩ ⟨m2.1, m2.2.1⟩ ?_
                rw [m1.2.2, ce _ m2.1 m2.2.1, m2.2.2, ce s s0 s1, ce t t0 t1]
              rcases h with ⟨p1, p2⟩ | ⟨p1, p2⟩
              · rcases h' with ⟨q1, q2⟩ | ⟨q1, q2⟩
                · rw [p1, q1]
                · exact absurd (many_mul (fun s t a b c d => (me s t a b c d).symm) q2) p2
              · rcases h' with ⟨q1, q2⟩ | ⟨q1, q2⟩
                · exact absurd (many_mul me p2) q2
                · rw [p1, q1]
/-- what group makes, where it makes one -/
def gOK (sf : Int → Int → Int) (n : Int) (d : gD) : Prop := (1 ≤ d 0 1 ∧ d 0 1 ≤ 120) ∧ ris (d 1) (d 0 1) ∧ (∀ c, In1 (d 1) (d 0 1) c ↔ isW sf c) ∧ isM (d 1) (d 0 1) (fun s t => d (2 + s) t) ∧ d 0 0 = n
theorem gOK_eq {d e : gD} (h : gOK sf n d) (h' : gOK sf n e) : d 0 0 = e 0 0 ∧ d 0 1 = e 0 1 ∧ ∀ k, 0 ≤ k → k < d 0 1 → d 1 k = e 1 k := by
  obtain ⟨n1, ri, wi, im, p0⟩ := h
  obtain ⟨n1', ri', wi', im', p0'⟩ := h'
  have eq := ris_eq ri ri' (fun i i0 i1 => by
    obtain ⟨j, a, b, c⟩ := (wi' _).mpr ((wi _).mp ⟨i, i0, i1, rfl⟩)
    exact ⟨j, a, b, c⟩) (fun i i0 i1 => by
    obtain ⟨j, a, b, c⟩ := (wi _).mpr ((wi' _).mp ⟨i, i0, i1, rfl⟩)
    exact ⟨j, a, b, c⟩)
  have NN : d 0 1 = e 0 1 := by
    have a := (eq (d 0 1).toNat).2
    have b := (eq (e 0 1).toNat).1
    rw [Int.toNat_of_nonneg (by omega)] at a b
    apply Classical.byContradiction
    intro q
    by_cases l : d 0 1 < e 0 1
    · have := (a l).1; omega
    · have := (b (by omega)).1; omega
  refine ⟨by rw [p0, p0'], NN, fun i i0 i1 => ?_⟩
  have := (eq i.toNat).1 (by omega)
  rw [Int.toNat_of_nonneg i0] at this
  exact this.2
noncomputable def gAX (sf : Int → Int → Int) (n : Int) : Int := @dite _ (∃ v, gAns sf n v) (Classical.propDecidable _) (fun h => Classical.choose h) (fun _ => 0)
theorem gAX_e (h : gAns sf n v) : v = gAX sf n := by
  unfold gAX
  rw [dif_pos ⟨v, h⟩]
  exact gAns_uni h (Classical.choose_spec (⟨v, h⟩ : ∃ v, gAns sf n v))
/-! words and codes -/
def sfR (sf : Int → Int → Int) : Prop := ∀ s p, 0 ≤ s → s < 4 → 0 ≤ p → p ≤ 7 → 0 ≤ sf s p ∧ sf s p ≤ 7
theorem sf_r (hn : 1 ≤ n ∧ n ≤ 8) (ok : sOK sf n) (hx : ∀ s p, 0 ≤ s → s < 4 → n ≤ p → p ≤ 7 → sf s p = p) : sfR sf := by
  intro s p s0 s1 p0 p1
  by_cases q : p < n
  · have := (ok s s0 s1).1 p p0 q
    omega
  · rw [hx s p s0 s1 (by omega) p1]; omega
theorem ev_r (hs : sfR sf) : ∀ w : List Int, (∀ s, s ∈ w → 0 ≤ s ∧ s < 4) → ∀ p, 0 ≤ p → p ≤ 7 → 0 ≤ ev sf w p ∧ ev sf w p ≤ 7 := by
  intro w
  induction w with
  | nil => intro _ p p0 p1; exact ⟨p0, p1⟩
  | cons s w ih =>
    intro hw p p0 p1
    have a := hw s (List.mem_cons_self ..)
    have b := ih (fun s' h => hw s' (List.mem_cons_of_mem _ h)) p p0 p1
    exact hs s _ a.1 a.2 b.1 b.2
theorem ev_cmp (hs : sfR sf) {s : Int} {w : List Int} (hw : ∀ s, s ∈ w → 0 ≤ s ∧ s < 4) (h : 0 ≤ s ∧ s < 4) : cmp (cd (ev sf w)) (cd (sf s)) = cd (ev sf (s :: w)) := by
  unfold cmp
  refine cd_e (fun p p0 p1 => ?_)
  have a := ev_r hs w hw p p0 p1
  rw [dg_cd (r := ev sf w) (fun q q0 q1 => ev_r hs w hw q q0 q1) ⟨p0, p1⟩, dg_cd (r := sf s) (fun q q0 q1 => hs s q h.1 h.2 q0 q1) a]
  rfl
theorem cd_id : cd (fun p => p) = 342391 := rfl
theorem W_base : isW sf 342391 := ⟨[], fun s h => by simp at h, cd_id.symm⟩
theorem W_step (hs : sfR sf) {c s : Int} (hc : isW sf c) (h : 0 ≤ s ∧ s < 4) : isW sf (cmp c (cd (sf s))) := by
  obtain ⟨w, hw, e⟩ := hc
  refine ⟨s :: w, fun s' h' => ?_, by rw [e]; exact ev_cmp hs hw h⟩
  rcases List.mem_cons.mp h' with q | q
  · rw [q]; exact h
  · exact hw s' q
theorem wS_W (hs : sfR sf) (sc : ∀ s, 0 ≤ s → s < 4 → scf s = cd (sf s)) (mkp : mkP scf mc mk) (ws : wS cs mc mk N) : ∀ c, In1 cs N c ↔ isW sf c := by
  intro c
  constructor
  · refine ws.2.2.2.2 (isW sf) W_base (fun c m m0 m1 _ pc => ?_) c
    obtain ⟨s, s0, s1, e⟩ := mkp.2.1 m m0 m1
    rw [e, sc s s0 s1]
    exact W_step hs pc ⟨s0, s1⟩
  · rintro ⟨w, hw, e⟩
    rw [e]
    clear e
    induction w with
    | nil => exact ws.2.2.1
    | cons s w ih =>
      have a := hw s (List.mem_cons_self ..)
      have hw' : ∀ s', s' ∈ w → 0 ≤ s' ∧ s' < 4 := fun s' h => hw s' (List.mem_cons_of_mem _ h)
      have i := ih hw'
      rw [← ev_cmp hs hw' a, ← sc s a.1 a.2]
      rcases mkp.2.2 s a.1 a.2 with e | ⟨m, m0, m1, e⟩
      · rw [e, cmp_rr (ws.2.1 _ i)]; exact i
      · rw [← e]; exact ws.2.2.2.1 _ m i m0 m1
theorem coX_W (hs : sfR sf) (sc : ∀ s, 0 ≤ s → s < 4 → scf s = cd (sf s)) (mkp : mkP scf mc mk) (h : coX cs mc mk n 0) : manyW sf := by
  obtain ⟨cl, q⟩ := h
  have all : ∀ (w : Nat) (j : Int), 0 ≤ j → j < n → j.toNat = w → isW sf (cs j) := by
    intro w
    induction w using Nat.strongRecOn with
    | ind w ih =>
      intro j j0 j1 jw
      by_cases z : j = 0
      · rw [z, cl.2.2.1]; exact W_base
      · obtain ⟨k, m, k0, k1, m0, m1, e⟩ := cl.2.2.2.2 j (by omega) j1
        obtain ⟨s, s0, s1, e2⟩ := mkp.2.1 m m0 m1
        rw [e, e2, sc s s0 s1]
        exact W_step hs (ih k.toNat (by omega) k k0 (by omega) rfl) ⟨s0, s1⟩
  rcases q with ⟨q, _⟩ | ⟨_, n120, k, m, k0, k1, m0, m1, fr⟩
  · omega
  · obtain ⟨s, s0, s1, e2⟩ := mkp.2.1 m m0 m1
    refine ⟨fun i => if i < 120 then cs i else cmp (cs k) (mc m), fun i i0 i1 => ?_, fun i j i0 ij j1 => ?_⟩
    · dsimp only
      split
      · exact all _ i i0 (by omega) rfl
      · rw [e2, sc s s0 s1]
        exact W_step hs (all _ k k0 k1 rfl) ⟨s0, s1⟩
    · dsimp only
      rw [if_pos (by omega)]
      split
      · exact cl.2.2.2.1 i j i0 ij (by omega)
      · exact fr i i0 (by omega)
theorem gbZ_ans {a : Int} {d : gD} (hn : 1 ≤ n ∧ n ≤ 8) (ok : sOK sf n) (hs : sfR sf) (sc : ∀ s, 0 ≤ s → s < 4 → scf s = cd (sf s)) (h : gbZ scf n v d) : (v = 0 ∧ gAns sf n (-5)) ∨ (v = 1 ∧ gAns sf n (d 0 1) ∧ gOK sf n d ∧ hsX d) := by
  obtain ⟨mc, mk, mkp, h⟩ := h
  rcases h with ⟨v0, cs, m, co⟩ | ⟨v0, cs, N, mul, ws, ri, im, tm⟩ | ⟨v1, ws, ri, im, tm, pl, hx⟩
  · exact Or.inl ⟨v0, Or.inr ⟨hn, Or.inr ⟨ok, Or.inl ⟨rfl, coX_W hs sc mkp co⟩⟩⟩⟩
  · exact Or.inl ⟨v0, Or.inr ⟨hn, Or.inr ⟨ok, Or.inr ⟨cs, N, mul, ws.1, ri, wS_W hs sc mkp ws, im, Or.inr ⟨rfl, tm⟩⟩⟩⟩⟩
  · exact Or.inr ⟨v1, Or.inr ⟨hn, Or.inr ⟨ok, Or.inr ⟨d 1, d 0 1, _, ws.1, ri, wS_W hs sc mkp ws, im, Or.inl ⟨rfl, tm⟩⟩⟩⟩, ⟨ws.1, ri, wS_W hs sc mkp ws, im, pl⟩, hx⟩
/-- a sheet's code moves places one by one -/
theorem pm_cd {r : Int → Int} (hn : 1 ≤ n ∧ n ≤ 8) (ok : pK r n) (hx : ∀ p, n ≤ p → p ≤ 7 → r p = p) : cO (cd r) ∧ pm (cd r) := by
  have rr : ∀ p, 0 ≤ p → p ≤ 7 → 0 ≤ r p ∧ r p ≤ 7 := fun p p0 p1 => by
    by_cases q : p < n
    · have := ok.1 p p0 q; omega
    · rw [hx p (by omega) p1]; omega
  refine ⟨cd_r rr, fun p q p0 p1 q0 q1 e => ?_⟩
  rw [dg_cd rr ⟨p0, p1⟩, dg_cd rr ⟨q0, q1⟩] at e
  by_cases y : p < n
  · by_cases z : q < n
    · exact ok.2 p q p0 y q0 z e
    · have := ok.1 p p0 y
      rw [hx q (by omega) q1] at e
      omega
  · rw [hx p (by omega) p1] at e
    by_cases z : q < n
    · have := ok.1 q q0 z
      omega
    · rw [hx q (by omega) q1] at e
      exact e
end
