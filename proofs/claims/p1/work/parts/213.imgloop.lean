theorem hb_iinc {nL i : Nat} {k : Int} {pc : Nat} {ls l2 : zL} {st : List zV} {h : zH} {a x : Int} (hz : zget ls i = some (0, a)) (hn : Nat.blt i nL = true) (h0 : -2147483648 ≤ a + k) (h1 : a + k ≤ 2147483647) (hx : x = a + k := by omega) (hl : l2 = (i, (0, x)) :: ls.filter (zdrop i) := by rfl) : hd_iinc nL i k pc ls st h = some (.inl (pc + 3, l2, st, h)) := by
  unfold hd_iinc
  simp only [hz, hn, cond_true, zfI_eq, z32_add, z32 h0 h1, hl, hx]
theorem im_itA {call : zCall} {k M a b : Nat} {fs : List zV} {f : Nat → zV} (hk : k ≤ 2) {i : Nat} {h : zH} {g : Nat → zV} (hi : i < 960) (hM : znth h M = some (.inl (8, fs))) (hfa : znth fs 6 = some (4, (a : Int))) (hfb : znth fs 41 = some (4, (b : Int))) (ha : znth h a = some (.inr (0, 960, f))) (hb : znth h b = some (.inr (0, 2880, g))) (hv : zisI (f i) = true) : zst (zops call lbd 8 3 1 false) zk_X8_image 17 47 [(2, (0, (i : Int))), (0, (4, (M : Int))), (1, (0, (k : Int)))] [] h = some (47, [(2, (0, ((i + 1 : Nat) : Int))), (0, (4, (M : Int))), (1, (0, (k : Int)))], [], zset h (.inr (0, 2880, zupd g (960 * k + i) (f i))) b) := by
  refine (zst_s (n := 16) (i := (.iload_n 2)) (q := (48, [(2, (0, (i : Int))), (0, (4, (M : Int))), (1, (0, (k : Int)))], [(0, (i : Int))], h)) rfl rfl rfl).trans ?_
  refine (zst_s (n := 15) (i := (.sipush 960)) (q := (51, [(2, (0, (i : Int))), (0, (4, (M : Int))), (1, (0, (k : Int)))], [(0, (960 : Int)), (0, (i : Int))], h)) rfl rfl rfl).trans ?_
  refine (zst_s (n := 14) (i := (.if_icmp .ge 27)) (q := (54, [(2, (0, (i : Int))), (0, (4, (M : Int))), (1, (0, (k : Int)))], [], h)) rfl rfl ((hb_ige (a := (i : Int)) (b := 960) (by omega) (by omega) (by omega) (by omega)).trans (by rw [decide_eq_true (show (i : Int) < 960 by omega)]; rfl))).trans ?_
  refine (zst_s (n := 13) (i := (.aload_n 0)) (q := (55, [(2, (0, (i : Int))), (0, (4, (M : Int))), (1, (0, (k : Int)))], [(4, (M : Int))], h)) rfl rfl rfl).trans ?_
  refine (zst_s (n := 12) (i := (.getfield 181)) (q := (58, [(2, (0, (i : Int))), (0, (4, (M : Int))), (1, (0, (k : Int)))], [(4, (b : Int))], h)) rfl rfl (hb_get hM rfl hfb)).trans ?_
  refine (zst_s (n := 11) (i := (.sipush 960)) (q := (61, [(2, (0, (i : Int))), (0, (4, (M : Int))), (1, (0, (k : Int)))], [(0, (960 : Int)), (4, (b : Int))], h)) rfl rfl rfl).trans ?_
  refine (zst_s (n := 10) (i := (.iload_n 1)) (q := (62, [(2, (0, (i : Int))), (0, (4, (M : Int))), (1, (0, (k : Int)))], [(0, (k : Int)), (0, (960 : Int)), (4, (b : Int))], h)) rfl rfl rfl).trans ?_
  refine (zst_s (n := 9) (i := .imul) (q := (63, [(2, (0, (i : Int))), (0, (4, (M : Int))), (1, (0, (k : Int)))], [(0, (960 : Int) * (k : Int)), (4, (b : Int))], h)) rfl rfl (hb_mul (by omega) (by omega))).trans ?_
  refine (zst_s (n := 8) (i := (.iload_n 2)) (q := (64, [(2, (0, (i : Int))), (0, (4, (M : Int))), (1, (0, (k : Int)))], [(0, (i : Int)), (0, (960 : Int) * (k : Int)), (4, (b : Int))], h)) rfl rfl rfl).trans ?_
  refine (zst_s (n := 7) (i := .iadd) (q := (65, [(2, (0, (i : Int))), (0, (4, (M : Int))), (1, (0, (k : Int)))], [(0, (960 : Int) * (k : Int) + (i : Int)), (4, (b : Int))], h)) rfl rfl (hb_add (by omega) (by omega))).trans ?_
  refine (zst_s (n := 6) (i := (.aload_n 0)) (q := (66, [(2, (0, (i : Int))), (0, (4, (M : Int))), (1, (0, (k : Int)))], [(4, (M : Int)), (0, (960 : Int) * (k : Int) + (i : Int)), (4, (b : Int))], h)) rfl rfl rfl).trans ?_
  refine (zst_s (n := 5) (i := (.getfield 56)) (q := (69, [(2, (0, (i : Int))), (0, (4, (M : Int))), (1, (0, (k : Int)))], [(4, (a : Int)), (0, (960 : Int) * (k : Int) + (i : Int)), (4, (b : Int))], h)) rfl rfl (hb_get hM rfl hfa)).trans ?_
  refine (zst_s (n := 4) (i := (.iload_n 2)) (q := (70, [(2, (0, (i : Int))), (0, (4, (M : Int))), (1, (0, (k : Int)))], [(0, (i : Int)), (4, (a : Int)), (0, (960 : Int) * (k : Int) + (i : Int)), (4, (b : Int))], h)) rfl rfl rfl).trans ?_
  refine (zst_s (n := 3) (i := .iaload) (q := (71, [(2, (0, (i : Int))), (0, (4, (M : Int))), (1, (0, (k : Int)))], [f i, (0, (960 : Int) * (k : Int) + (i : Int)), (4, (b : Int))], h)) rfl rfl (hb_ald ha rfl (zix_c rfl hi (by omega)) hv)).trans ?_
  refine (zst_s (n := 2) (i := .iastore) (q := (72, [(2, (0, (i : Int))), (0, (4, (M : Int))), (1, (0, (k : Int)))], [], zset h (.inr (0, 2880, zupd g (960 * k + i) (f i))) b)) rfl rfl (hb_ast hb rfl (zix_c (by omega) (by omega) (by omega)) hv)).trans ?_
  refine (zst_s (n := 1) (i := (.iinc 2 1)) (q := (75, [(2, (0, ((i + 1 : Nat) : Int))), (0, (4, (M : Int))), (1, (0, (k : Int)))], [], zset h (.inr (0, 2880, zupd g (960 * k + i) (f i))) b)) rfl rfl (by show hd_iinc 3 2 1 72 [(2, (0, (i : Int))), (0, (4, (M : Int))), (1, (0, (k : Int)))] [] (zset h (.inr (0, 2880, zupd g (960 * k + i) (f i))) b) = _; exact hb_iinc (a := (i : Int)) (x := ((i + 1 : Nat) : Int)) rfl rfl (by omega) (by omega) (by omega) rfl)).trans ?_
  refine (zst_s (n := 0) (i := (.goto (-28))) (q := (47, [(2, (0, ((i + 1 : Nat) : Int))), (0, (4, (M : Int))), (1, (0, (k : Int)))], [], zset h (.inr (0, 2880, zupd g (960 * k + i) (f i))) b)) rfl rfl rfl).trans ?_
  rfl
theorem im_loA {call : zCall} {k M a b : Nat} {fs : List zV} {f : Nat → zV} (hk : k ≤ 2) (hab : a ≠ b) (hMb : M ≠ b) (hv : ∀ i, i < 960 → zisI (f i) = true) : ∀ (m i : Nat) (h : zH) (g : Nat → zV), i + m = 960 → znth h M = some (.inl (8, fs)) → znth fs 6 = some (4, (a : Int)) → znth fs 41 = some (4, (b : Int)) → znth h a = some (.inr (0, 960, f)) → znth h b = some (.inr (0, 2880, g)) → ∀ n, zrun (zops call lbd 8 3 1 false) zk_X8_image (n + (17 * m + 3)) 47 [(2, (0, (i : Int))), (0, (4, (M : Int))), (1, (0, (k : Int)))] [] h = zrun (zops call lbd 8 3 1 false) zk_X8_image n 78 [(2, (0, (960 : Int))), (0, (4, (M : Int))), (1, (0, (k : Int)))] [] (zset h (.inr (0, 2880, zlp f (960 * k) m i g)) b) := by
  intro m
  induction m with
  | zero =>
    intro i h g hi hM hfa hfb ha hb n
    have hi2 : i = 960 := by omega
    subst hi2
    rw [show zlp f (960 * k) 0 960 g = g from rfl, zset_self _ _ _ hb]
    refine (zrun_s (n := n + 2) (i := (.iload_n 2)) (q := (48, [(2, (0, ((960 : Nat) : Int))), (0, (4, (M : Int))), (1, (0, (k : Int)))], [(0, ((960 : Nat) : Int))], h)) rfl rfl rfl).trans ?_
    refine (zrun_s (n := n + 1) (i := (.sipush 960)) (q := (51, [(2, (0, ((960 : Nat) : Int))), (0, (4, (M : Int))), (1, (0, (k : Int)))], [(0, (960 : Int)), (0, ((960 : Nat) : Int))], h)) rfl rfl rfl).trans ?_
    refine (zrun_s (n := n + 0) (i := (.if_icmp .ge 27)) (q := (78, [(2, (0, ((960 : Nat) : Int))), (0, (4, (M : Int))), (1, (0, (k : Int)))], [], h)) rfl rfl (by show hd_icmp lbd .ge 27 51 [(2, (0, ((960 : Nat) : Int))), (0, (4, (M : Int))), (1, (0, (k : Int)))] [(0, (960 : Int)), (0, ((960 : Nat) : Int))] h = _; refine (hb_ige (a := ((960 : Nat) : Int)) (b := 960) (by omega) (by omega) (by omega) (by omega)).trans ?_; rw [decide_eq_false (show ¬ ((960 : Nat) : Int) < 960 by omega)]; rfl)).trans ?_
    rfl
  | succ m ih =>
    intro i h g hi hM hfa hfb ha hb n
    have e := zst_run (n + (17 * m + 3)) 17 (im_itA (call := call) (i := i) hk (by omega) hM hfa hfb ha hb (hv i (by omega)))
    rw [show n + (17 * (m + 1) + 3) = n + (17 * m + 3) + 17 by omega]
    refine e.trans ?_
    refine (ih (i + 1) _ (zupd g (960 * k + i) (f i)) (by omega) (by rw [znth_set, if_neg hMb]; exact hM) hfa hfb (by rw [znth_set, if_neg hab]; exact ha) (by rw [znth_set, if_pos rfl, hb]; rfl) n).trans ?_
    rw [zset_set]
    rfl
theorem im_itB {call : zCall} {k M a b : Nat} {fs : List zV} {f : Nat → zV} (hk : k ≤ 2) {i : Nat} {h : zH} {g : Nat → zV} (hi : i < 2400) (hM : znth h M = some (.inl (8, fs))) (hfa : znth fs 29 = some (4, (a : Int))) (hfb : znth fs 43 = some (4, (b : Int))) (ha : znth h a = some (.inr (1, 2400, f))) (hb : znth h b = some (.inr (1, 7200, g))) (hv : zisJ (f i) = true) : zst (zops call lbd 8 3 1 false) zk_X8_image 17 111 [(2, (0, (i : Int))), (0, (4, (M : Int))), (1, (0, (k : Int)))] [] h = some (111, [(2, (0, ((i + 1 : Nat) : Int))), (0, (4, (M : Int))), (1, (0, (k : Int)))], [], zset h (.inr (1, 7200, zupd g (2400 * k + i) (f i))) b) := by
  refine (zst_s (n := 16) (i := (.iload_n 2)) (q := (112, [(2, (0, (i : Int))), (0, (4, (M : Int))), (1, (0, (k : Int)))], [(0, (i : Int))], h)) rfl rfl rfl).trans ?_
  refine (zst_s (n := 15) (i := (.sipush 2400)) (q := (115, [(2, (0, (i : Int))), (0, (4, (M : Int))), (1, (0, (k : Int)))], [(0, (2400 : Int)), (0, (i : Int))], h)) rfl rfl rfl).trans ?_
  refine (zst_s (n := 14) (i := (.if_icmp .ge 27)) (q := (118, [(2, (0, (i : Int))), (0, (4, (M : Int))), (1, (0, (k : Int)))], [], h)) rfl rfl ((hb_ige (a := (i : Int)) (b := 2400) (by omega) (by omega) (by omega) (by omega)).trans (by rw [decide_eq_true (show (i : Int) < 2400 by omega)]; rfl))).trans ?_
  refine (zst_s (n := 13) (i := (.aload_n 0)) (q := (119, [(2, (0, (i : Int))), (0, (4, (M : Int))), (1, (0, (k : Int)))], [(4, (M : Int))], h)) rfl rfl rfl).trans ?_
  refine (zst_s (n := 12) (i := (.getfield 187)) (q := (122, [(2, (0, (i : Int))), (0, (4, (M : Int))), (1, (0, (k : Int)))], [(4, (b : Int))], h)) rfl rfl (hb_get hM rfl hfb)).trans ?_
  refine (zst_s (n := 11) (i := (.sipush 2400)) (q := (125, [(2, (0, (i : Int))), (0, (4, (M : Int))), (1, (0, (k : Int)))], [(0, (2400 : Int)), (4, (b : Int))], h)) rfl rfl rfl).trans ?_
  refine (zst_s (n := 10) (i := (.iload_n 1)) (q := (126, [(2, (0, (i : Int))), (0, (4, (M : Int))), (1, (0, (k : Int)))], [(0, (k : Int)), (0, (2400 : Int)), (4, (b : Int))], h)) rfl rfl rfl).trans ?_
  refine (zst_s (n := 9) (i := .imul) (q := (127, [(2, (0, (i : Int))), (0, (4, (M : Int))), (1, (0, (k : Int)))], [(0, (2400 : Int) * (k : Int)), (4, (b : Int))], h)) rfl rfl (hb_mul (by omega) (by omega))).trans ?_
  refine (zst_s (n := 8) (i := (.iload_n 2)) (q := (128, [(2, (0, (i : Int))), (0, (4, (M : Int))), (1, (0, (k : Int)))], [(0, (i : Int)), (0, (2400 : Int) * (k : Int)), (4, (b : Int))], h)) rfl rfl rfl).trans ?_
  refine (zst_s (n := 7) (i := .iadd) (q := (129, [(2, (0, (i : Int))), (0, (4, (M : Int))), (1, (0, (k : Int)))], [(0, (2400 : Int) * (k : Int) + (i : Int)), (4, (b : Int))], h)) rfl rfl (hb_add (by omega) (by omega))).trans ?_
  refine (zst_s (n := 6) (i := (.aload_n 0)) (q := (130, [(2, (0, (i : Int))), (0, (4, (M : Int))), (1, (0, (k : Int)))], [(4, (M : Int)), (0, (2400 : Int) * (k : Int) + (i : Int)), (4, (b : Int))], h)) rfl rfl rfl).trans ?_
  refine (zst_s (n := 5) (i := (.getfield 148)) (q := (133, [(2, (0, (i : Int))), (0, (4, (M : Int))), (1, (0, (k : Int)))], [(4, (a : Int)), (0, (2400 : Int) * (k : Int) + (i : Int)), (4, (b : Int))], h)) rfl rfl (hb_get hM rfl hfa)).trans ?_
  refine (zst_s (n := 4) (i := (.iload_n 2)) (q := (134, [(2, (0, (i : Int))), (0, (4, (M : Int))), (1, (0, (k : Int)))], [(0, (i : Int)), (4, (a : Int)), (0, (2400 : Int) * (k : Int) + (i : Int)), (4, (b : Int))], h)) rfl rfl rfl).trans ?_
  refine (zst_s (n := 3) (i := .laload) (q := (135, [(2, (0, (i : Int))), (0, (4, (M : Int))), (1, (0, (k : Int)))], [f i, (0, (2400 : Int) * (k : Int) + (i : Int)), (4, (b : Int))], h)) rfl rfl (hb_ald ha rfl (zix_c rfl hi (by omega)) hv)).trans ?_
  refine (zst_s (n := 2) (i := .lastore) (q := (136, [(2, (0, (i : Int))), (0, (4, (M : Int))), (1, (0, (k : Int)))], [], zset h (.inr (1, 7200, zupd g (2400 * k + i) (f i))) b)) rfl rfl (hb_ast hb rfl (zix_c (by omega) (by omega) (by omega)) hv)).trans ?_
  refine (zst_s (n := 1) (i := (.iinc 2 1)) (q := (139, [(2, (0, ((i + 1 : Nat) : Int))), (0, (4, (M : Int))), (1, (0, (k : Int)))], [], zset h (.inr (1, 7200, zupd g (2400 * k + i) (f i))) b)) rfl rfl (by show hd_iinc 3 2 1 136 [(2, (0, (i : Int))), (0, (4, (M : Int))), (1, (0, (k : Int)))] [] (zset h (.inr (1, 7200, zupd g (2400 * k + i) (f i))) b) = _; exact hb_iinc (a := (i : Int)) (x := ((i + 1 : Nat) : Int)) rfl rfl (by omega) (by omega) (by omega) rfl)).trans ?_
  refine (zst_s (n := 0) (i := (.goto (-28))) (q := (111, [(2, (0, ((i + 1 : Nat) : Int))), (0, (4, (M : Int))), (1, (0, (k : Int)))], [], zset h (.inr (1, 7200, zupd g (2400 * k + i) (f i))) b)) rfl rfl rfl).trans ?_
  rfl
theorem im_loB {call : zCall} {k M a b : Nat} {fs : List zV} {f : Nat → zV} (hk : k ≤ 2) (hab : a ≠ b) (hMb : M ≠ b) (hv : ∀ i, i < 2400 → zisJ (f i) = true) : ∀ (m i : Nat) (h : zH) (g : Nat → zV), i + m = 2400 → znth h M = some (.inl (8, fs)) → znth fs 29 = some (4, (a : Int)) → znth fs 43 = some (4, (b : Int)) → znth h a = some (.inr (1, 2400, f)) → znth h b = some (.inr (1, 7200, g)) → ∀ n, zrun (zops call lbd 8 3 1 false) zk_X8_image (n + (17 * m + 3)) 111 [(2, (0, (i : Int))), (0, (4, (M : Int))), (1, (0, (k : Int)))] [] h = zrun (zops call lbd 8 3 1 false) zk_X8_image n 142 [(2, (0, (2400 : Int))), (0, (4, (M : Int))), (1, (0, (k : Int)))] [] (zset h (.inr (1, 7200, zlp f (2400 * k) m i g)) b) := by
  intro m
  induction m with
  | zero =>
    intro i h g hi hM hfa hfb ha hb n
    have hi2 : i = 2400 := by omega
    subst hi2
    rw [show zlp f (2400 * k) 0 2400 g = g from rfl, zset_self _ _ _ hb]
    refine (zrun_s (n := n + 2) (i := (.iload_n 2)) (q := (112, [(2, (0, ((2400 : Nat) : Int))), (0, (4, (M : Int))), (1, (0, (k : Int)))], [(0, ((2400 : Nat) : Int))], h)) rfl rfl rfl).trans ?_
    refine (zrun_s (n := n + 1) (i := (.sipush 2400)) (q := (115, [(2, (0, ((2400 : Nat) : Int))), (0, (4, (M : Int))), (1, (0, (k : Int)))], [(0, (2400 : Int)), (0, ((2400 : Nat) : Int))], h)) rfl rfl rfl).trans ?_
    refine (zrun_s (n := n + 0) (i := (.if_icmp .ge 27)) (q := (142, [(2, (0, ((2400 : Nat) : Int))), (0, (4, (M : Int))), (1, (0, (k : Int)))], [], h)) rfl rfl (by show hd_icmp lbd .ge 27 115 [(2, (0, ((2400 : Nat) : Int))), (0, (4, (M : Int))), (1, (0, (k : Int)))] [(0, (2400 : Int)), (0, ((2400 : Nat) : Int))] h = _; refine (hb_ige (a := ((2400 : Nat) : Int)) (b := 2400) (by omega) (by omega) (by omega) (by omega)).trans ?_; rw [decide_eq_false (show ¬ ((2400 : Nat) : Int) < 2400 by omega)]; rfl)).trans ?_
    rfl
  | succ m ih =>
    intro i h g hi hM hfa hfb ha hb n
    have e := zst_run (n + (17 * m + 3)) 17 (im_itB (call := call) (i := i) hk (by omega) hM hfa hfb ha hb (hv i (by omega)))
    rw [show n + (17 * (m + 1) + 3) = n + (17 * m + 3) + 17 by omega]
    refine e.trans ?_
    refine (ih (i + 1) _ (zupd g (2400 * k + i) (f i)) (by omega) (by rw [znth_set, if_neg hMb]; exact hM) hfa hfb (by rw [znth_set, if_neg hab]; exact ha) (by rw [znth_set, if_pos rfl, hb]; rfl) n).trans ?_
    rw [zset_set]
    rfl
theorem im_itC {call : zCall} {k M a b : Nat} {fs : List zV} {f : Nat → zV} (hk : k ≤ 2) {i : Nat} {h : zH} {g : Nat → zV} (hi : i < 300) (hM : znth h M = some (.inl (8, fs))) (hfa : znth fs 36 = some (4, (a : Int))) (hfb : znth fs 45 = some (4, (b : Int))) (ha : znth h a = some (.inr (1, 300, f))) (hb : znth h b = some (.inr (1, 900, g))) (hv : zisJ (f i) = true) : zst (zops call lbd 8 3 1 false) zk_X8_image 17 154 [(2, (0, (i : Int))), (0, (4, (M : Int))), (1, (0, (k : Int)))] [] h = some (154, [(2, (0, ((i + 1 : Nat) : Int))), (0, (4, (M : Int))), (1, (0, (k : Int)))], [], zset h (.inr (1, 900, zupd g (300 * k + i) (f i))) b) := by
  refine (zst_s (n := 16) (i := (.iload_n 2)) (q := (155, [(2, (0, (i : Int))), (0, (4, (M : Int))), (1, (0, (k : Int)))], [(0, (i : Int))], h)) rfl rfl rfl).trans ?_
  refine (zst_s (n := 15) (i := (.sipush 300)) (q := (158, [(2, (0, (i : Int))), (0, (4, (M : Int))), (1, (0, (k : Int)))], [(0, (300 : Int)), (0, (i : Int))], h)) rfl rfl rfl).trans ?_
  refine (zst_s (n := 14) (i := (.if_icmp .ge 27)) (q := (161, [(2, (0, (i : Int))), (0, (4, (M : Int))), (1, (0, (k : Int)))], [], h)) rfl rfl ((hb_ige (a := (i : Int)) (b := 300) (by omega) (by omega) (by omega) (by omega)).trans (by rw [decide_eq_true (show (i : Int) < 300 by omega)]; rfl))).trans ?_
  refine (zst_s (n := 13) (i := (.aload_n 0)) (q := (162, [(2, (0, (i : Int))), (0, (4, (M : Int))), (1, (0, (k : Int)))], [(4, (M : Int))], h)) rfl rfl rfl).trans ?_
  refine (zst_s (n := 12) (i := (.getfield 193)) (q := (165, [(2, (0, (i : Int))), (0, (4, (M : Int))), (1, (0, (k : Int)))], [(4, (b : Int))], h)) rfl rfl (hb_get hM rfl hfb)).trans ?_
  refine (zst_s (n := 11) (i := (.sipush 300)) (q := (168, [(2, (0, (i : Int))), (0, (4, (M : Int))), (1, (0, (k : Int)))], [(0, (300 : Int)), (4, (b : Int))], h)) rfl rfl rfl).trans ?_
  refine (zst_s (n := 10) (i := (.iload_n 1)) (q := (169, [(2, (0, (i : Int))), (0, (4, (M : Int))), (1, (0, (k : Int)))], [(0, (k : Int)), (0, (300 : Int)), (4, (b : Int))], h)) rfl rfl rfl).trans ?_
  refine (zst_s (n := 9) (i := .imul) (q := (170, [(2, (0, (i : Int))), (0, (4, (M : Int))), (1, (0, (k : Int)))], [(0, (300 : Int) * (k : Int)), (4, (b : Int))], h)) rfl rfl (hb_mul (by omega) (by omega))).trans ?_
  refine (zst_s (n := 8) (i := (.iload_n 2)) (q := (171, [(2, (0, (i : Int))), (0, (4, (M : Int))), (1, (0, (k : Int)))], [(0, (i : Int)), (0, (300 : Int) * (k : Int)), (4, (b : Int))], h)) rfl rfl rfl).trans ?_
  refine (zst_s (n := 7) (i := .iadd) (q := (172, [(2, (0, (i : Int))), (0, (4, (M : Int))), (1, (0, (k : Int)))], [(0, (300 : Int) * (k : Int) + (i : Int)), (4, (b : Int))], h)) rfl rfl (hb_add (by omega) (by omega))).trans ?_
  refine (zst_s (n := 6) (i := (.aload_n 0)) (q := (173, [(2, (0, (i : Int))), (0, (4, (M : Int))), (1, (0, (k : Int)))], [(4, (M : Int)), (0, (300 : Int) * (k : Int) + (i : Int)), (4, (b : Int))], h)) rfl rfl rfl).trans ?_
  refine (zst_s (n := 5) (i := (.getfield 166)) (q := (176, [(2, (0, (i : Int))), (0, (4, (M : Int))), (1, (0, (k : Int)))], [(4, (a : Int)), (0, (300 : Int) * (k : Int) + (i : Int)), (4, (b : Int))], h)) rfl rfl (hb_get hM rfl hfa)).trans ?_
  refine (zst_s (n := 4) (i := (.iload_n 2)) (q := (177, [(2, (0, (i : Int))), (0, (4, (M : Int))), (1, (0, (k : Int)))], [(0, (i : Int)), (4, (a : Int)), (0, (300 : Int) * (k : Int) + (i : Int)), (4, (b : Int))], h)) rfl rfl rfl).trans ?_
  refine (zst_s (n := 3) (i := .laload) (q := (178, [(2, (0, (i : Int))), (0, (4, (M : Int))), (1, (0, (k : Int)))], [f i, (0, (300 : Int) * (k : Int) + (i : Int)), (4, (b : Int))], h)) rfl rfl (hb_ald ha rfl (zix_c rfl hi (by omega)) hv)).trans ?_
  refine (zst_s (n := 2) (i := .lastore) (q := (179, [(2, (0, (i : Int))), (0, (4, (M : Int))), (1, (0, (k : Int)))], [], zset h (.inr (1, 900, zupd g (300 * k + i) (f i))) b)) rfl rfl (hb_ast hb rfl (zix_c (by omega) (by omega) (by omega)) hv)).trans ?_
  refine (zst_s (n := 1) (i := (.iinc 2 1)) (q := (182, [(2, (0, ((i + 1 : Nat) : Int))), (0, (4, (M : Int))), (1, (0, (k : Int)))], [], zset h (.inr (1, 900, zupd g (300 * k + i) (f i))) b)) rfl rfl (by show hd_iinc 3 2 1 179 [(2, (0, (i : Int))), (0, (4, (M : Int))), (1, (0, (k : Int)))] [] (zset h (.inr (1, 900, zupd g (300 * k + i) (f i))) b) = _; exact hb_iinc (a := (i : Int)) (x := ((i + 1 : Nat) : Int)) rfl rfl (by omega) (by omega) (by omega) rfl)).trans ?_
  refine (zst_s (n := 0) (i := (.goto (-28))) (q := (154, [(2, (0, ((i + 1 : Nat) : Int))), (0, (4, (M : Int))), (1, (0, (k : Int)))], [], zset h (.inr (1, 900, zupd g (300 * k + i) (f i))) b)) rfl rfl rfl).trans ?_
  rfl
theorem im_loC {call : zCall} {k M a b : Nat} {fs : List zV} {f : Nat → zV} (hk : k ≤ 2) (hab : a ≠ b) (hMb : M ≠ b) (hv : ∀ i, i < 300 → zisJ (f i) = true) : ∀ (m i : Nat) (h : zH) (g : Nat → zV), i + m = 300 → znth h M = some (.inl (8, fs)) → znth fs 36 = some (4, (a : Int)) → znth fs 45 = some (4, (b : Int)) → znth h a = some (.inr (1, 300, f)) → znth h b = some (.inr (1, 900, g)) → ∀ n, zrun (zops call lbd 8 3 1 false) zk_X8_image (n + (17 * m + 3)) 154 [(2, (0, (i : Int))), (0, (4, (M : Int))), (1, (0, (k : Int)))] [] h = zrun (zops call lbd 8 3 1 false) zk_X8_image n 185 [(2, (0, (300 : Int))), (0, (4, (M : Int))), (1, (0, (k : Int)))] [] (zset h (.inr (1, 900, zlp f (300 * k) m i g)) b) := by
  intro m
  induction m with
  | zero =>
    intro i h g hi hM hfa hfb ha hb n
    have hi2 : i = 300 := by omega
    subst hi2
    rw [show zlp f (300 * k) 0 300 g = g from rfl, zset_self _ _ _ hb]
    refine (zrun_s (n := n + 2) (i := (.iload_n 2)) (q := (155, [(2, (0, ((300 : Nat) : Int))), (0, (4, (M : Int))), (1, (0, (k : Int)))], [(0, ((300 : Nat) : Int))], h)) rfl rfl rfl).trans ?_
    refine (zrun_s (n := n + 1) (i := (.sipush 300)) (q := (158, [(2, (0, ((300 : Nat) : Int))), (0, (4, (M : Int))), (1, (0, (k : Int)))], [(0, (300 : Int)), (0, ((300 : Nat) : Int))], h)) rfl rfl rfl).trans ?_
    refine (zrun_s (n := n + 0) (i := (.if_icmp .ge 27)) (q := (185, [(2, (0, ((300 : Nat) : Int))), (0, (4, (M : Int))), (1, (0, (k : Int)))], [], h)) rfl rfl (by show hd_icmp lbd .ge 27 158 [(2, (0, ((300 : Nat) : Int))), (0, (4, (M : Int))), (1, (0, (k : Int)))] [(0, (300 : Int)), (0, ((300 : Nat) : Int))] h = _; refine (hb_ige (a := ((300 : Nat) : Int)) (b := 300) (by omega) (by omega) (by omega) (by omega)).trans ?_; rw [decide_eq_false (show ¬ ((300 : Nat) : Int) < 300 by omega)]; rfl)).trans ?_
    rfl
  | succ m ih =>
    intro i h g hi hM hfa hfb ha hb n
    have e := zst_run (n + (17 * m + 3)) 17 (im_itC (call := call) (i := i) hk (by omega) hM hfa hfb ha hb (hv i (by omega)))
    rw [show n + (17 * (m + 1) + 3) = n + (17 * m + 3) + 17 by omega]
    refine e.trans ?_
    refine (ih (i + 1) _ (zupd g (300 * k + i) (f i)) (by omega) (by rw [znth_set, if_neg hMb]; exact hM) hfa hfb (by rw [znth_set, if_neg hab]; exact ha) (by rw [znth_set, if_pos rfl, hb]; rfl) n).trans ?_
    rw [zset_set]
    rfl
