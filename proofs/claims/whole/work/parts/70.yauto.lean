-- the reference's automaton and its replay
section
variable {gw gm gp gq gs gr gn gc gf : Int32} {bi le sc ct : Nat → Int32}
def yp_A (A : Nat × Nat × Nat × (Nat → Nat) × (Nat → Nat)) (gn gc gf : Int32) (sc ct : Nat → Int32) : Prop :=
  gn = nI A.1 ∧ gc = nI A.2.1 ∧ gf = nI A.2.2.1 ∧
  ∀ i, i < 2 * A.1 → sc i = nI (A.2.2.2.1 i) ∧ ct i = nI (A.2.2.2.2 i)

theorem yq_i {n : Nat} (h : n < 64) : vp_in (nI n) 64 := vp_in_nI h (by omega)
theorem yq_2 (c : Nat) : 2 * nI c = nI (2 * c) := pk_mul 2 c
theorem yq_2b (c b : Nat) : 2 * nI c + nI b = nI (2 * c + b) := by
  rw [yq_2, nI_add]
theorem yq_21 (c : Nat) : 2 * nI c + 1 = nI (2 * c + 1) := by
  rw [yq_2, nI_1]
theorem yq_n (c : Nat) (h : c < 1000) : (2 * nI c).toNatClampNeg = 2 * c := by
  rw [yq_2]
  exact nI_clamp (by omega)
theorem yq_nb (c b : Nat) (h : 2 * c + b < 1000) : (2 * nI c + nI b).toNatClampNeg = 2 * c + b := by
  rw [yq_2b]
  exact nI_clamp (by omega)
theorem yq_n1 (c : Nat) (h : c < 1000) : (2 * nI c + 1).toNatClampNeg = 2 * c + 1 := by
  rw [yq_21]
  exact nI_clamp (by omega)
theorem yq_w (c : Nat) (h : 2 * c < 64) : vp_in (2 * nI c) 64 := by
  rw [yq_2]
  exact yq_i h
theorem yq_wb (c b : Nat) (h : 2 * c + b < 64) : vp_in (2 * nI c + nI b) 64 := by
  rw [yq_2b]
  exact yq_i h
theorem yq_w1 (c : Nat) (h : 2 * c + 1 < 64) : vp_in (2 * nI c + 1) 64 := by
  rw [yq_21]
  exact yq_i h

-- the initial shape
theorem yq_sh56 {post : SY → Prop} {J15 J25 : Int32 → (Nat → Int32) → (Nat → Int32) → (Nat → Int32) → (Nat → Int32) → Prop} {x b : Nat} {z : Int32} (h : 2 * x + b < 64)
    (K : J25 (nI (b + 1)) bi le (upd sc (2 * x + b) z) (upd ct (2 * x + b) 2)) :
    wY_shape_56 post J15 J25 (nI x) (nI b) z (2 * nI x + nI b) gw gm gp gq gs gr gn gc gf bi le sc ct := by
  have e := yq_nb x b (by omega)
  have w := yq_wb x b h
  exact ⟨w, nm_r (e' := upd sc (2 * x + b) z) (by rw [e]) ⟨w, nm_r (e' := upd ct (2 * x + b) 2) (by rw [e]) (nm_r (nI_1 b) K)⟩⟩

theorem yq_sh25s {post : SY → Prop} {J15 : Int32 → (Nat → Int32) → (Nat → Int32) → (Nat → Int32) → (Nat → Int32) → Prop} {n x b wd : Nat} (hx : x < wd) (hw : wd ≤ 4) (hb : b < 2)
    (K : wY_shape_25 post J15 (nI x) (nI wd) gm gp gq gs gr gn gc gf n (nI (b + 1))
      bi le (upd sc (2 * x + b) (nI (xs_f wd (2 * x)))) (upd ct (2 * x + b) 2)) :
    wY_shape_25 post J15 (nI x) (nI wd) gm gp gq gs gr gn gc gf (n + 1) (nI b) bi le sc ct := by
  rw [wY_shape_25]
  refine br_f (nI_ge (b := 2) hb (by omega)) ?_
  by_cases e : x + 1 = wd
  · have f : xs_f wd (2 * x) = 0 := if_pos (by omega)
    rw [f] at K
    exact br_t (by rw [nI_1, e]) (yq_sh56 (z := 0) (by omega) K)
  · have f : xs_f wd (2 * x) = x + 1 := (if_neg (by omega)).trans (by omega)
    rw [f] at K
    refine br_f (by rw [nI_1, nI_eq (by omega) (by omega)]; exact e) ?_
    rw [nI_1 x]
    exact yq_sh56 (z := nI (x + 1)) (by omega) K

theorem yq_sh15 {post : SY → Prop} {wd : Nat} (hw : wd ≤ 4)
    (K : ∀ sc' ct' : Nat → Int32, (∀ i, i < 2 * wd → sc' i = nI (xs_f wd i) ∧ ct' i = nI 2) →
      post (nI wd, gm, gp, gq, gs, gr, gn, gc, gf, bi, le, sc', ct')) (n : Nat) :
    ∀ (x : Nat) (sc1 ct1 : Nat → Int32), wd < n + x → x ≤ wd → (∀ i, i < 2 * x → sc1 i = nI (xs_f wd i) ∧ ct1 i = nI 2) →
      wY_shape_15 post (nI wd) gm gp gq gs gr gn gc gf n (nI x) bi le sc1 ct1 := by
  induction n with
  | zero => intro x sc1 ct1 h1 h2; omega
  | succ n ih =>
    intro x sc1 ct1 h1 h2 h3
    rw [wY_shape_15]
    by_cases e : x = wd
    · subst e
      exact br_t (nI_le (Nat.le_refl _) (by omega)) (K sc1 ct1 h3)
    · refine br_f (nI_ge (by omega) (by omega)) ⟨3, ?_⟩
      refine yq_sh25s (n := 2) (b := 0) (by omega) hw (by omega) (yq_sh25s (n := 1) (b := 1) (by omega) hw (by omega) ?_)
      rw [wY_shape_25]
      refine br_t (nI_le (a := 2) (by omega) (by omega)) (nm_r (nI_1 x) (ih (x + 1) _ _ (by omega) (by omega) (fun i hi => ?_)))
      have hz1 : xs_f wd (2 * x + 1) = xs_f wd (2 * x) := by
        unfold xs_f
        rw [show (2 * x + 1) / 2 = 2 * x / 2 by omega]
      by_cases i1 : i = 2 * x + 1
      · subst i1
        rw [pk_us, pk_us]
        exact ⟨congrArg nI hz1.symm, rfl⟩
      · rw [pk_un i1, pk_un i1]
        by_cases i0 : i = 2 * x
        · subst i0
          exact ⟨pk_us, pk_us⟩
        · rw [pk_un (by omega), pk_un (by omega)]
          exact h3 i (by omega)

theorem yq_shape {post : SY → Prop} {wd fl : Nat} (hw : wd ≤ 4)
    (K : ∀ (gn' gc' : Int32) (sc' ct' : Nat → Int32), (∀ (g : Int32) (fl : Nat), g = nI fl → yp_A (ma_sh wd fl) gn' gc' g sc' ct') →
      post (nI wd, gm, gp, gq, gs, gr, gn', gc', gf, bi, le, sc', ct')) : wpY_shape post (nI wd, gm, gp, gq, gs, gr, gn, gc, gf, bi, le, sc, ct) := by
  exact ⟨wd + 1, yq_sh15 hw (fun sc' ct' h => K _ _ sc' ct' (fun g fl hg => ⟨rfl, rfl, hg, h⟩)) (wd + 1) 0 sc ct (by omega) (by omega)
    (fun i hi => by omega)⟩

-- learning
theorem yq_321 {post : SY → Prop} {b c x : Nat} (h : 2 * c + b < 64) (hx : sc (2 * c + b) = nI x)
    (K : post (gw, gm, gp, gq, gs, gr, gn, nI x, gf, bi, le, sc, ct)) : wY_learn_321 post (nI b) (nI c) gw gm gp gq gs gr gn gc gf bi le sc ct := by
  exact ⟨yq_wb c b h, nm_r (by rw [yq_nb c b (by omega), hx]) K⟩

theorem yq_238 {post : SY → Prop} {n c b : Nat} {sA tA : Nat → Nat} (hn : n ≤ 32) (hc : c < n) (hb : b < 2) (hT : ma_T n tA)
    (hp : ∀ i, i < 2 * n → sc i = nI (sA i) ∧ ct i = nI (tA i))
    (K : ∀ ct' : Nat → Int32, (∀ i, i < 2 * n → ct' i = nI (ma_bp c (2 * c + b) tA i)) → post (gw, gm, gp, gq, gs, gr, gn, nI (sA (2 * c + b)), gf, bi, le, sc, ct')) :
    wY_learn_238 post (nI b) (nI c) gw gm gp gq gs gr gn gc gf bi le sc ct := by
  obtain ⟨p1, p2⟩ := hp (2 * c + b) (by omega)
  have b0 := hT.2 c hc
  have up : ∀ i, i < 2 * n → upd ct (2 * c + b) (nI (tA (2 * c + b) + 4)) i = nI (ma_up (2 * c + b) tA i) := by
    intro i hi
    unfold ma_up
    by_cases k : i = 2 * c + b
    · subst k
      rw [if_pos rfl, pk_us]
    · rw [if_neg k, pk_un k]
      exact (hp i hi).2
  have u0 := up (2 * c) (by omega)
  have u1 := up (2 * c + 1) (by omega)
  have bu : ∀ i, i = 2 * c ∨ i = 2 * c + 1 → ma_up (2 * c + b) tA i < 1000 := by
    intro i hi
    unfold ma_up
    rcases hi with rfl | rfl <;> split <;> omega
  have w0 := yq_w c (by omega)
  have w1 := yq_w1 c (by omega)
  have wE := yq_wb c b (by omega)
  have e0 := yq_n c (by omega)
  have e1 := yq_n1 c (by omega)
  have eE := yq_nb c b (by omega)
  have n2 : ¬ (2 : Int32) = 0 := by decide
  generalize hct : upd ct (2 * c + b) (nI (tA (2 * c + b) + 4)) = ct1 at up u0 u1
  refine ⟨wE, wE, nm_r (e' := ct1) (by rw [eE, p2, ← hct]; exact congrArg (upd ct _) (nI_add _ 4)) ⟨w0, w1, ?_⟩⟩
  have hs : ct1 (2 * nI c).toNatClampNeg + ct1 (2 * nI c + 1).toNatClampNeg = nI (ma_up (2 * c + b) tA (2 * c) + ma_up (2 * c + b) tA (2 * c + 1)) := by
    rw [e0, e1, u0, u1, nI_add]
  have b1 := bu (2 * c) (Or.inl rfl)
  have b2 := bu (2 * c + 1) (Or.inr rfl)
  by_cases q : 128 < ma_up (2 * c + b) tA (2 * c) + ma_up (2 * c + b) tA (2 * c + 1)
  · refine br_f (by rw [hs]; exact nI_ge (a := 128) q (by omega)) ⟨w0, n2, w0,
      nm_r (e' := upd ct1 (2 * c) (nI ((ma_up (2 * c + b) tA (2 * c) + 1) / 2))) (by rw [e0, u0, xq_half b1]) ⟨w1, n2, w1,
      nm_r (e' := upd (upd ct1 (2 * c) (nI ((ma_up (2 * c + b) tA (2 * c) + 1) / 2))) (2 * c + 1) (nI ((ma_up (2 * c + b) tA (2 * c + 1) + 1) / 2)))
        (by rw [e1, pk_un (by omega), u1, xq_half b2]) (yq_321 (by omega) p1 (K _ (fun i hi => ?_)))⟩⟩
    unfold ma_bp
    by_cases i1 : i = 2 * c + 1
    · subst i1
      rw [pk_us, if_pos ⟨q, Or.inr rfl⟩]
    · rw [pk_un i1]
      by_cases i0 : i = 2 * c
      · subst i0
        rw [pk_us, if_pos ⟨q, Or.inl rfl⟩]
      · rw [pk_un i0, if_neg (by omega)]
        exact up i hi
  · refine br_t (by rw [hs]; exact nI_le (b := 128) (by omega) (by omega)) (yq_321 (by omega) p1 (K _ (fun i hi => ?_)))
    unfold ma_bp
    rw [if_neg (fun z => q z.1)]
    exact up i hi

theorem yq_190 {post : SY → Prop} {J : Int32 → (Nat → Int32) → (Nat → Int32) → (Nat → Int32) → (Nat → Int32) → Prop} {x1 x2 x4 x5 x6 : Int32} {t x v w i y : Nat} (hx : x < 2) (ht : 2 * t + 1 < 64) (hi : i < 64)
    (hv : v < 1000) (hw : w ≤ v) (K : J (nI (x + 1)) bi le sc (upd (upd ct i (nI y)) (2 * t + x) (nI (ma_1 (v - w))))) {z1 : Int32} (hz : z1 = nI i) :
    wY_learn_190 post J x1 x2 (nI t) x4 x5 x6 (nI x) (nI v) (nI w) (nI y) z1 gw gm gp gq gs gr gn gc gf bi le sc ct := by
  subst hz
  have eT := yq_nb t x (by omega)
  have wT := yq_wb t x (by omega)
  have es : nI v - nI w = nI (v - w) := pk_sub hw
  refine ⟨yq_i hi, nm_r (e' := upd ct i (nI y)) (by rw [xq_cl (by omega)]) ?_⟩
  unfold ma_1 at K
  by_cases c : v - w ≤ 1
  · refine br_t (by rw [es]; exact nI_le (b := 1) c (by omega)) ⟨wT, nm_r (e' := upd (upd ct i (nI y)) (2 * t + x) 1) (by rw [eT]) (nm_r (nI_1 x) ?_)⟩
    by_cases d : v - w < 1
    · rw [if_pos d] at K
      exact K
    · rw [if_neg d, show v - w = 1 by omega] at K
      exact K
  · rw [if_neg (by omega)] at K
    exact br_f (by rw [es]; exact nI_ge (a := 1) (by omega) (by omega)) ⟨wT, nm_r (e' := upd (upd ct i (nI y)) (2 * t + x) (nI (v - w))) (by rw [eT, es]) (nm_r (nI_1 x) K)⟩

theorem yq_115 {post : SY → Prop} {x1 x2 : Int32} {n t x v P W u : Nat} (hx : x < 2) (ht : 2 * t + 1 < 64) (hu : 2 * u + 1 < 64)
    (htu : t ≠ u) (hv : ct (2 * t + x) = nI v) (bv : v < 200) (hP : P ≤ W) (hW : 1 ≤ W) (bW : W < 200)
    (K : wY_learn_115 post x1 x2 (nI t) (nI P) (nI W) (nI u) gw gm gp gq gs gr gn gc gf n (nI (x + 1)) bi le (upd sc (2 * u + x) (sc (2 * t + x))) (upd (upd ct (2 * u + x) (nI (ma_1 (v * P / W)))) (2 * t + x) (nI (ma_1 (v - v * P / W))))) :
    wY_learn_115 post x1 x2 (nI t) (nI P) (nI W) (nI u) gw gm gp gq gs gr gn gc gf (n + 1) (nI x) bi le sc ct := by
  rw [wY_learn_115]
  have eT := yq_nb t x (by omega)
  have wT := yq_wb t x (by omega)
  have eU := yq_nb u x (by omega)
  have wU := yq_wb u x (by omega)
  have sq : v * P / W ≤ v := ma_sr hP
  have bm : v * P < 2 ^ 31 := by
    have : v * P ≤ 200 * 200 := Nat.mul_le_mul (by omega) (by omega)
    omega
  refine br_f (nI_ge (b := 2) hx (by omega)) ⟨wT, nm_r (e' := nI v) (by rw [eT, hv]) ⟨nI_ne0 (by omega) (by omega),
    nm_r (e' := nI (v * P / W)) (by rw [pk_mul]; exact pk_div bm (by omega) (by omega)) ⟨wT, wU,
    nm_r (e' := upd sc (2 * u + x) (sc (2 * t + x))) (by rw [eT, eU]) ?_⟩⟩⟩
  by_cases c : v * P / W ≤ 1
  · have e1 : ma_1 (v * P / W) = 1 := by
      unfold ma_1
      split <;> omega
    rw [e1] at K
    exact br_t (nI_le (b := 1) c (by omega)) (yq_190 (y := 1) hx ht (by omega) (by omega) sq K (yq_2b u x))
  · have e1 : ma_1 (v * P / W) = v * P / W := if_neg (by omega)
    rw [e1] at K
    exact br_f (nI_ge (a := 1) (by omega) (by omega)) (yq_190 hx ht (by omega) (by omega) sq K (yq_2b u x))

theorem yq_clone {post : SY → Prop} {n c b : Nat} {sA tA : Nat → Nat} (hn : n < 32) (hc : c < n) (hb : b < 2)
    (hT : ma_T n tA) (hu : sA (2 * c + b) < n) (hw : tA (2 * c + b) ≤ tA (2 * sA (2 * c + b)) + tA (2 * sA (2 * c + b) + 1))
    (hp : ∀ i, i < 2 * n → sc i = nI (sA i) ∧ ct i = nI (tA i))
    (K : ∀ sc' ct' : Nat → Int32, (∀ i, i < 2 * (n + 1) → sc' i = nI (ma_cs n (2 * c + b) sA i) ∧ ct' i = nI (ma_ct n (2 * c + b) sA tA i)) →
      wY_learn_238 post (nI b) (nI c) gw gm gp gq gs gr gn gc gf bi le sc' ct') :
    wY_learn_115 post (nI b) (nI c) (nI (sA (2 * c + b))) (nI (tA (2 * c + b))) (nI (tA (2 * sA (2 * c + b)) + tA (2 * sA (2 * c + b) + 1)))
      (nI n) gw gm gp gq gs gr gn gc gf 3 0 bi le sc ct := by
  have eE := yq_nb c b (by omega)
  have wE := yq_wb c b (by omega)
  obtain ⟨s0, f0⟩ := hp (2 * sA (2 * c + b)) (by omega)
  obtain ⟨s1, f1⟩ := hp (2 * sA (2 * c + b) + 1) (by omega)
  have bT := hT.2 _ hu
  have l0 := hT.1 (2 * sA (2 * c + b)) (by omega)
  refine yq_115 (n := 2) (x := 0) (v := tA (2 * sA (2 * c + b))) (by omega) (by omega) (by omega) (by omega) f0 (by omega) hw (by omega) (by omega) ?_
  refine yq_115 (n := 1) (x := 1) (v := tA (2 * sA (2 * c + b) + 1)) (by omega) (by omega) (by omega) (by omega)
    (by rw [pk_un (by omega), pk_un (by omega)]; exact f1) (by omega) hw (by omega) (by omega) ?_
  rw [wY_learn_115]
  refine br_t (nI_le (a := 2) (by omega) (by omega)) ⟨wE, nm_e ?_⟩
  rw [eE]
  refine K _ _ (fun i hi => ⟨?_, ?_⟩)
  · unfold ma_cs
    by_cases k : i = 2 * c + b
    · subst k
      rw [if_pos rfl, pk_us]
    · rw [if_neg k, pk_un k]
      by_cases k1 : i = 2 * n + 1
      · subst k1
        rw [if_neg (by omega), if_pos rfl, pk_us, pk_un (by omega)]
        exact s1
      · rw [pk_un k1]
        by_cases k0 : i = 2 * n
        · subst k0
          rw [if_pos rfl]
          exact pk_us.trans s0
        · rw [if_neg k0, if_neg k1, pk_un (show i ≠ 2 * n + 0 from k0)]
          exact (hp i (by omega)).1
  · unfold ma_ct
    by_cases t1 : i = 2 * sA (2 * c + b) + 1
    · subst t1
      rw [if_neg (by omega), if_neg (by omega), if_pos (Or.inr rfl), pk_us]
    · rw [pk_un t1]
      by_cases k1 : i = 2 * n + 1
      · subst k1
        rw [if_neg (by omega), if_pos rfl, pk_us]
      · rw [pk_un k1]
        by_cases t0 : i = 2 * sA (2 * c + b)
        · subst t0
          rw [if_neg (by omega), if_neg (by omega), if_pos (Or.inl rfl)]
          exact pk_us
        · rw [pk_un (show i ≠ 2 * sA (2 * c + b) + 0 from t0)]
          by_cases k0 : i = 2 * n
          · subst k0
            rw [if_pos rfl]
            exact pk_us
          · rw [if_neg k0, if_neg k1, if_neg (by omega), pk_un (show i ≠ 2 * n + 0 from k0)]
            exact (hp i (by omega)).2

theorem yq_learn {post : SY → Prop} {b wd mx t1 t2 p : Nat} {A : Nat × Nat × Nat × (Nat → Nat) × (Nat → Nat)}
    (hb : b < 2) (hw : wd ≤ 4) (hm : mx ≤ 32) (h1 : t1 < 1000) (h2 : t2 < 1000) (hp : p < 1000) (hI : ma_I mx p A)
    (hA : yp_A A gn gc gf sc ct)
    (K : ∀ (gn' gc' gf' : Int32) (sc' ct' : Nat → Int32), yp_A (ma_ln wd mx t1 t2 b A) gn' gc' gf' sc' ct' →
      post (nI wd, nI mx, nI t1, nI t2, gs, gr, gn', gc', gf', bi, le, sc', ct')) :
    wpY_learn post (nI wd, nI mx, nI t1, nI t2, gs, gr, gn, gc, gf, bi, le, sc, ct) (nI b) := by
  obtain ⟨n, c, fl, sA, tA⟩ := A
  obtain ⟨i1, i2, i3, i4, i5, i6⟩ := hI
  obtain ⟨rfl, rfl, rfl, a4⟩ := hA
  dsimp only at i1 i2 i3 i4 i5 i6 a4
  have eE := yq_nb c b (by omega)
  have wE := yq_wb c b (by omega)
  obtain ⟨e1, e2⟩ := a4 (2 * c + b) (by omega)
  have ht : sA (2 * c + b) < n := i5 _ (by omega)
  generalize hq : sA (2 * c + b) = t at ht e1
  have eT := yq_n t (by omega)
  have eT1 := yq_n1 t (by omega)
  have wT := yq_w t (by omega)
  have wT1 := yq_w1 t (by omega)
  obtain ⟨s0, f0⟩ := a4 (2 * t) (by omega)
  obtain ⟨s1, f1⟩ := a4 (2 * t + 1) (by omega)
  have bT := i6.2 t ht
  have bE := i6.2 c i3
  have l0 := i6.1 (2 * t) (by omega)
  have bE' : tA (2 * c + b) < 200 := by
    have : b = 0 ∨ b = 1 := by omega
    rcases this with rfl | rfl
    · show tA (2 * c) < 200
      omega
    · omega
  have plain : ¬ (t1 ≤ tA (2 * c + b) ∧ t2 + tA (2 * c + b) ≤ tA (2 * t) + tA (2 * t + 1)) →
      wY_learn_238 post (nI b) (nI c) (nI wd) (nI mx) (nI t1) (nI t2) gs gr (nI n) (nI c) (nI fl) bi le sc ct := by
    intro no
    have e : ma_ln wd mx t1 t2 b (n, c, fl, sA, tA) = (n, sA (2 * c + b), fl, sA, ma_bp c (2 * c + b) tA) := by
      unfold ma_ln
      dsimp only
      rw [hq, if_neg no]
    rw [e] at K
    exact yq_238 (by omega) i3 hb i6 a4 (fun ct' k => K _ _ _ _ _ ⟨rfl, rfl, rfl, fun i hi => ⟨(a4 i hi).1, k i hi⟩⟩)
  refine ⟨wE, nm_r (e' := nI t) (by rw [eE, e1]) ⟨wE, nm_r (e' := nI (tA (2 * c + b))) (by rw [eE, e2]) ⟨wT, wT1,
    nm_r (e' := nI (tA (2 * t) + tA (2 * t + 1))) (by rw [eT, eT1, f0, f1, nI_add]) ?_⟩⟩⟩
  by_cases q1 : tA (2 * c + b) < t1
  · exact br_t (nI_lt q1 (by omega)) (plain (by omega))
  · refine br_f (nI_nlt (by omega) (by omega)) ?_
    by_cases q2 : tA (2 * t) + tA (2 * t + 1) < tA (2 * c + b) + t2
    · exact br_t ((xq_slt (by omega) (by omega) h2).mpr q2) (plain (by omega))
    · refine br_f (fun z => q2 ((xq_slt (by omega) (by omega) h2).mp z)) ?_
      have yes : t1 ≤ tA (2 * c + b) ∧ t2 + tA (2 * c + b) ≤ tA (2 * t) + tA (2 * t + 1) := by omega
      by_cases q3 : n = mx
      · refine br_t (congrArg nI q3) ?_
        have e : ma_ln wd mx t1 t2 b (n, c, fl, sA, tA) = ma_sh wd (fl + 1) := by
          unfold ma_ln
          dsimp only
          rw [hq, if_pos yes, if_pos (by omega)]
        rw [e] at K
        exact yq_shape (fl := fl) hw (fun gn' gc' sc' ct' g => nm_r (nI_1 fl) (K _ _ _ _ _ (g _ _ rfl)))
      · refine br_f (by rw [nI_eq (by omega) (by omega)]; exact q3) (nm_r (nI_1 n) ⟨3, ?_⟩)
        have e : ma_ln wd mx t1 t2 b (n, c, fl, sA, tA) =
            (n + 1, n, fl, ma_cs n (2 * c + b) sA, ma_bp c (2 * c + b) (ma_ct n (2 * c + b) sA tA)) := by
          unfold ma_ln
          dsimp only
          rw [hq, if_pos yes, if_neg (by omega)]
        rw [e] at K
        subst hq
        have hT' : ma_T (n + 1) (ma_ct n (2 * c + b) sA tA) := ma_T_ct i6 ht (by omega)
        have cs : ma_cs n (2 * c + b) sA (2 * c + b) = n := if_pos rfl
        refine yq_clone (n := n) (c := c) (by omega) i3 hb i6 ht (by omega) a4 (fun sc' ct' g => ?_)
        refine yq_238 (n := n + 1) (c := c) (by omega) (by omega) hb hT' g (fun ct'' k => ?_)
        rw [cs]
        exact K _ _ _ _ _ ⟨rfl, rfl, rfl, fun i hi => ⟨(g i hi).1, k i hi⟩⟩

-- the replay of a message of n bits that stands in row r
theorem yq_rep36 {post : SY → Prop} {pr : Nat × Nat × Nat × Nat} {m : Nat → Nat} {r N : Nat} (hB : mr_B pr) (hm : ∀ j, m j < 2)
    (hr : r < 4) (hN : N ≤ 80) (hb : ∀ j, j < N → bi (80 * r + j) = nI (m j))
    (K : ∀ (gn' gc' gf' : Int32) (sc' ct' : Nat → Int32), yp_A (mp_a pr m N) gn' gc' gf' sc' ct' →
      post (nI pr.1, nI pr.2.1, nI pr.2.2.1, nI pr.2.2.2, gs, gr, gn', gc', gf', bi, le, sc', ct')) (n : Nat) :
    ∀ (i : Nat) (gn gc gf : Int32) (sc ct : Nat → Int32), i ≤ N → N < n + i → yp_A (mp_a pr m i) gn gc gf sc ct →
      wY_replay_36 post (nI r) (nI N) n (nI i) (nI pr.1) (nI pr.2.1) (nI pr.2.2.1) (nI pr.2.2.2) gs gr gn gc gf bi le sc ct := by
  induction n with
  | zero => intro i gn gc gf sc ct h1 h2; omega
  | succ n ih =>
    intro i gn gc gf sc ct h1 h2 hA
    rw [wY_replay_36]
    by_cases e : i = N
    · subst e
      exact br_t (nI_le (Nat.le_refl _) (by omega)) (K _ _ _ _ _ hA)
    · have ei : nI r * 80 + nI i = nI (80 * r + i) := by
        have a : nI r * 80 = nI (r * 80) := pk_mul r 80
        rw [a, nI_add, Nat.mul_comm r 80]
      have hI := mp_I hB hm i
      have hB' := hB
      obtain ⟨b1, b2, b3, b4, b5, b6⟩ := hB'
      refine br_f (nI_ge (by omega) (by omega)) ⟨by rw [ei]; exact vp_in_nI (by omega) (by omega), ?_⟩
      rw [ei, xq_cl (by omega), hb i (by omega)]
      exact yq_learn (p := i) (hm i) b2 b4 (by omega) (by omega) (by omega) hI hA
        (fun gn' gc' gf' sc' ct' h => nm_r (nI_1 i) (ih (i + 1) gn' gc' gf' sc' ct' (by omega) (by omega) h))

theorem yq_rep24 {post : SY → Prop} {pr : Nat × Nat × Nat × Nat} {m : Nat → Nat} {r N : Nat} (hB : mr_B pr) (hm : ∀ j, m j < 2)
    (hr : r < 4) (hN : N ≤ 80) (hb : ∀ j, j < N → bi (80 * r + j) = nI (m j))
    (K : ∀ (gn' gc' gf' : Int32) (sc' ct' : Nat → Int32), yp_A (mp_a pr m N) gn' gc' gf' sc' ct' →
      post (nI pr.1, nI pr.2.1, nI pr.2.2.1, nI pr.2.2.2, gs, gr, gn', gc', gf', bi, le, sc', ct')) :
    wY_replay_24 post (nI r) (nI N) (nI pr.1) (nI pr.2.1) (nI pr.2.2.1) (nI pr.2.2.2) gs gr gn gc gf bi le sc ct := by
  unfold wY_replay_24
  exact yq_shape (fl := 0) hB.2.1 (fun gn' gc' sc' ct' g => ⟨N + 1, yq_rep36 hB hm hr hN hb K (N + 1) 0 gn' gc' 0 sc' ct' (by omega) (by omega) (g 0 0 rfl)⟩)

-- a message of no bits stands in no row: a closed reader's replay
theorem yq_rep0 {post : SY → Prop} {pr : Nat × Nat × Nat × Nat} {m : Nat → Nat} {x : Int32} (hB : mr_B pr)
    (K : ∀ (gn' gc' gf' : Int32) (sc' ct' : Nat → Int32), yp_A (mp_a pr m 0) gn' gc' gf' sc' ct' →
      post (nI pr.1, nI pr.2.1, nI pr.2.2.1, nI pr.2.2.2, gs, gr, gn', gc', gf', bi, le, sc', ct')) :
    wY_replay_24 post x 0 (nI pr.1) (nI pr.2.1) (nI pr.2.2.1) (nI pr.2.2.2) gs gr gn gc gf bi le sc ct := by
  unfold wY_replay_24
  refine yq_shape (fl := 0) hB.2.1 (fun gn' gc' sc' ct' g => ⟨1, ?_⟩)
  show wY_replay_36 post x 0 (0 + 1) 0 _ _ _ _ _ _ _ _ _ _ _ _ _
  rw [wY_replay_36]
  exact br_t (by decide) (K _ _ _ _ _ (g 0 0 rfl))
end
