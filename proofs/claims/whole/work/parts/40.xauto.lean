-- the component's automaton, method by method (macros: expand.py)
section
variable {fw fm fp fq fn fo fd : Int32} {sT cS fT su ta : Nat → Int32} {lo hi : Nat → Int64} {cA : Nat → Int32} {wi : Nat → Int64} {dr co cL bL bA bB : Nat → Int32}
theorem xq_cl {n : Nat} (h : n < 1000) : (nI n).toNatClampNeg = n := nI_clamp (by omega)
theorem xq_i3 {s : Nat} (h : s < 3) : vp_in (nI s) 3 := vp_in_nI h (by omega)
theorem xq_i192 {n : Nat} (h : n < 192) : vp_in (nI n) 192 := vp_in_nI h (by omega)
theorem xq_cl1 {n : Nat} (h : n + 1 < 1000) : (nI n + 1).toNatClampNeg = n + 1 := by
  rw [nI_1]
  exact xq_cl h
theorem xq_i1 {n : Nat} (h : n + 1 < 192) : vp_in (nI n + 1) 192 := by
  rw [nI_1]
  exact xq_i192 h

-- pictures of one side's automaton, and what another side keeps
def xp_A (s : Nat) (A : Nat × Nat × Nat × (Nat → Nat) × (Nat → Nat)) (sT cS fT su ta : Nat → Int32) : Prop :=
  sT s = nI A.1 ∧ cS s = nI A.2.1 ∧ fT s = nI A.2.2.1 ∧
  ∀ i, i < 2 * A.1 → su (64 * s + i) = nI (A.2.2.2.1 i) ∧ ta (64 * s + i) = nI (A.2.2.2.2 i)

def xp_F (s : Nat) (sT cS fT su ta sT' cS' fT' su' ta' : Nat → Int32) : Prop :=
  (∀ j, j ≠ s → sT' j = sT j ∧ cS' j = cS j ∧ fT' j = fT j) ∧
  ∀ j, (j < 64 * s ∨ 64 * s + 64 ≤ j) → su' j = su j ∧ ta' j = ta j

theorem xp_keep {s t : Nat} {A : Nat × Nat × Nat × (Nat → Nat) × (Nat → Nat)}
    {sT' cS' fT' su' ta' : Nat → Int32} (h : xp_A s A sT cS fT su ta) (hA : A.1 ≤ 32)
    (f : xp_F t sT cS fT su ta sT' cS' fT' su' ta') (hst : s ≠ t) : xp_A s A sT' cS' fT' su' ta' := by
  obtain ⟨h1, h2, h3, h4⟩ := h
  obtain ⟨f1, f2⟩ := f
  obtain ⟨a, b, c⟩ := f1 s hst
  refine ⟨a.trans h1, b.trans h2, c.trans h3, fun i hi => ?_⟩
  obtain ⟨d, e⟩ := f2 (64 * s + i) (by omega)
  obtain ⟨p, q⟩ := h4 i hi
  exact ⟨d.trans p, e.trans q⟩

theorem xp_F_t {s : Nat} {sT1 cS1 fT1 su1 ta1 sT' cS' fT' su' ta' : Nat → Int32}
    (f : xp_F s sT cS fT su ta sT1 cS1 fT1 su1 ta1) (g : xp_F s sT1 cS1 fT1 su1 ta1 sT' cS' fT' su' ta') :
    xp_F s sT cS fT su ta sT' cS' fT' su' ta' := by
  refine ⟨fun j hj => ?_, fun j hj => ?_⟩
  · obtain ⟨a, b, c⟩ := f.1 j hj
    obtain ⟨p, q, r⟩ := g.1 j hj
    exact ⟨p.trans a, q.trans b, r.trans c⟩
  · obtain ⟨a, b⟩ := f.2 j hj
    obtain ⟨p, q⟩ := g.2 j hj
    exact ⟨p.trans a, q.trans b⟩

theorem xq_cell {post : Int32 → Prop} {y : Int32} {s c : Nat} (hy : y = nI c)
    (h : post (nI (64 * s + 2 * c))) : wpX_cell post (nI s) y := by
  subst hy
  have e : (nI s * 32 + nI c) * 2 = nI (64 * s + 2 * c) := by
    have e1 : nI s * 32 = nI (s * 32) := pk_mul s 32
    have e2 : nI (s * 32 + c) * 2 = nI ((s * 32 + c) * 2) := pk_mul _ 2
    rw [e1, nI_add, e2]
    exact congrArg nI (by omega)
  unfold wpX_cell
  rw [e]
  exact h

-- the initial shape
theorem xq_sh50 {post : SX → Prop} {J : Int32 → (Nat → Int32) → (Nat → Int32) → (Nat → Int32) → (Nat → Int32) → (Nat → Int32) → (Nat → Int64) → (Nat → Int64) → (Nat → Int32) → (Nat → Int64) → (Nat → Int32) → (Nat → Int32) → (Nat → Int32) → (Nat → Int32) → (Nat → Int32) → (Nat → Int32) → Prop} {x1 z : Int32} {x c : Nat} (hc : c + 1 < 192)
    (h : J (nI (x + 1)) sT cS fT (upd (upd su c z) (c + 1) z) (upd (upd ta c 2) (c + 1) 2) lo hi cA wi dr co cL bL bA bB) :
    wX_takeInitialShape_50 post J x1 (nI x) (nI c) z fw fm fp fq fn fo fd sT cS fT su ta lo hi cA wi dr co cL bL bA bB := by
  have e : (nI c).toNatClampNeg = c := xq_cl (by omega)
  have e1 : (nI c + 1).toNatClampNeg = c + 1 := xq_cl1 (by omega)
  have w : vp_in (nI c) 192 := xq_i192 (by omega)
  have w1 : vp_in (nI c + 1) 192 := xq_i1 hc
  exact ⟨w, nm_r (e' := upd su c z) (by rw [e]) ⟨w1, nm_r (e' := upd (upd su c z) (c + 1) z) (by rw [e1])
    ⟨w, nm_r (e' := upd ta c 2) (by rw [e]) ⟨w1, nm_r (e' := upd (upd ta c 2) (c + 1) 2) (by rw [e1])
      (nm_r (nI_1 x) h)⟩⟩⟩⟩

def xs_f (wd i : Nat) : Nat := if i / 2 + 1 = wd then 0 else i / 2 + 1

theorem xq_sh19 {post : SX → Prop} {s wd : Nat} (hs : s < 3) (hw : wd ≤ 4)
    (K : ∀ su' ta' : Nat → Int32,
      (∀ i, i < 2 * wd → su' (64 * s + i) = nI (xs_f wd i) ∧ ta' (64 * s + i) = nI 2) →
      (∀ j, (j < 64 * s ∨ 64 * s + 64 ≤ j) → su' j = su j ∧ ta' j = ta j) →
      post (nI wd, fm, fp, fq, fn, fo, fd, sT, cS, fT, su', ta', lo, hi, cA, wi, dr, co, cL, bL, bA, bB)) :
    ∀ (n x : Nat) (su1 ta1 : Nat → Int32), wd < n + x → x ≤ wd →
      (∀ i, i < 2 * x → su1 (64 * s + i) = nI (xs_f wd i) ∧ ta1 (64 * s + i) = nI 2) →
      (∀ j, (j < 64 * s ∨ 64 * s + 64 ≤ j) → su1 j = su j ∧ ta1 j = ta j) →
      wX_takeInitialShape_19 post (nI s) (nI wd) fm fp fq fn fo fd n (nI x) sT cS fT su1 ta1 lo hi cA wi dr co cL bL bA bB := by
  intro n
  induction n with
  | zero => intro x su1 ta1 h1 h2; omega
  | succ n ih =>
    intro x su1 ta1 h1 h2 h3 h4
    rw [wX_takeInitialShape_19]
    by_cases e : x = wd
    · subst e
      exact br_t (nI_le (Nat.le_refl _) (by omega)) (K su1 ta1 h3 h4)
    · have step : ∀ z : Nat, z = xs_f wd (2 * x) →
          wX_takeInitialShape_19 post (nI s) (nI wd) fm fp fq fn fo fd n (nI (x + 1))
            sT cS fT (upd (upd su1 (64 * s + 2 * x) (nI z)) (64 * s + 2 * x + 1) (nI z)) (upd (upd ta1 (64 * s + 2 * x) 2) (64 * s + 2 * x + 1) 2) lo hi cA wi dr co cL bL bA bB := by
        intro z hz
        have hz1 : z = xs_f wd (2 * x + 1) := by
          rw [hz]
          unfold xs_f
          rw [show (2 * x + 1) / 2 = 2 * x / 2 by omega]
        refine ih (x + 1) _ _ (by omega) (by omega) (fun i hi => ?_) (fun j hj => ?_)
        · by_cases i1 : i = 2 * x + 1
          · subst i1
            rw [show 64 * s + (2 * x + 1) = 64 * s + 2 * x + 1 by omega, pk_us, pk_us]
            exact ⟨congrArg nI hz1, rfl⟩
          · by_cases i0 : i = 2 * x
            · subst i0
              rw [pk_un (by omega), pk_us, pk_un (by omega), pk_us]
              exact ⟨congrArg nI hz, rfl⟩
            · rw [pk_un (by omega), pk_un (by omega), pk_un (by omega), pk_un (by omega)]
              exact h3 i (by omega)
        · rw [pk_un (by omega), pk_un (by omega), pk_un (by omega), pk_un (by omega)]
          exact h4 j hj
      refine br_f (nI_ge (by omega) (by omega)) (xq_cell rfl ?_)
      by_cases e1 : x + 1 = wd
      · exact br_t (by rw [nI_1, e1]) (xq_sh50 (z := 0) (by omega)
          (step 0 (by unfold xs_f; rw [if_pos (by omega)])))
      · refine br_f (by rw [nI_1, nI_eq (by omega) (by omega)]; exact e1) ?_
        rw [nI_1]
        exact xq_sh50 (by omega) (step (x + 1) (by unfold xs_f; rw [if_neg (by omega)]; omega))

theorem xq_shape {post : SX → Prop} {s wd : Nat} (hs : s < 3) (hw : wd ≤ 4)
    (K : ∀ sT' cS' su' ta' : Nat → Int32,
      (∀ (fT' : Nat → Int32) (fl : Nat), fT' s = nI fl → xp_A s (ma_sh wd fl) sT' cS' fT' su' ta') →
      xp_F s sT cS fT su ta sT' cS' fT su' ta' → post (nI wd, fm, fp, fq, fn, fo, fd, sT', cS', fT, su', ta', lo, hi, cA, wi, dr, co, cL, bL, bA, bB)) :
    wpX_takeInitialShape post (nI wd, fm, fp, fq, fn, fo, fd, sT, cS, fT, su, ta, lo, hi, cA, wi, dr, co, cL, bL, bA, bB) (nI s) := by
  have e : (nI s).toNatClampNeg = s := xq_cl (by omega)
  have w : vp_in (nI s) 3 := xq_i3 hs
  refine ⟨w, nm_r (e' := upd sT s (nI wd)) (by rw [e]) ⟨w, nm_r (e' := upd cS s 0) (by rw [e])
    ⟨wd + 1, xq_sh19 hs hw (fun su' ta' h1 h2 => ?_) (wd + 1) 0 su ta (by omega) (by omega)
      (fun i hi => by omega) (fun j _ => ⟨rfl, rfl⟩)⟩⟩⟩
  refine K _ _ su' ta' (fun fT' fl hf => ⟨pk_us, pk_us, hf, h1⟩) ⟨fun j hj => ⟨pk_un hj, pk_un hj, rfl⟩, h2⟩

theorem xq_fresh {post : SX → Prop} {s wd : Nat} (hs : s < 3) (hw : wd ≤ 4)
    (K : ∀ sT' cS' fT' su' ta' : Nat → Int32, xp_A s (ma_sh wd 0) sT' cS' fT' su' ta' →
      xp_F s sT cS fT su ta sT' cS' fT' su' ta' →
      post (nI wd, fm, fp, fq, fn, fo, fd, sT', cS', fT', su', ta', lo, hi, cA, wi, dr, co, cL, bL, bA, bB)) :
    wpX_freshAutomaton post (nI wd, fm, fp, fq, fn, fo, fd, sT, cS, fT, su, ta, lo, hi, cA, wi, dr, co, cL, bL, bA, bB) (nI s) := by
  have e : (nI s).toNatClampNeg = s := xq_cl (by omega)
  have w : vp_in (nI s) 3 := xq_i3 hs
  unfold wpX_freshAutomaton
  refine xq_shape hs hw (fun sT' cS' su' ta' h1 h2 => ?_)
  refine ⟨w, nm_r (e' := upd fT s 0) (by rw [e]) (K _ _ _ _ _ (h1 _ 0 pk_us) ⟨fun j hj => ?_, h2.2⟩)⟩
  obtain ⟨a, b, _⟩ := h2.1 j hj
  exact ⟨a, b, pk_un hj⟩

-- learning: the two counts of the state
theorem xq_half {x : Nat} (h : x < 1000) : (nI x + 1) / 2 = nI ((x + 1) / 2) := by
  rw [nI_1]
  exact pk_div (a := x + 1) (d := 2) (by omega) (by decide) (by decide)

theorem xq_halve {post : SX → Prop} {c x y : Nat} (hc : c + 1 < 192) (hx : ta c = nI x) (hy : ta (c + 1) = nI y)
    (bx : x < 1000) (by' : y < 1000)
    (K : ∀ ta' : Nat → Int32, ta' c = nI (if 128 < x + y then (x + 1) / 2 else x) →
      ta' (c + 1) = nI (if 128 < x + y then (y + 1) / 2 else y) →
      (∀ j, j ≠ c → j ≠ c + 1 → ta' j = ta j) → post (fw, fm, fp, fq, fn, fo, fd, sT, cS, fT, su, ta', lo, hi, cA, wi, dr, co, cL, bL, bA, bB)) :
    wpX_halveOverCap post (fw, fm, fp, fq, fn, fo, fd, sT, cS, fT, su, ta, lo, hi, cA, wi, dr, co, cL, bL, bA, bB) (nI c) := by
  have e : (nI c).toNatClampNeg = c := xq_cl (by omega)
  have e1 : (nI c + 1).toNatClampNeg = c + 1 := xq_cl1 (by omega)
  have w : vp_in (nI c) 192 := xq_i192 (by omega)
  have w1 : vp_in (nI c + 1) 192 := xq_i1 hc
  have hs : ta (nI c).toNatClampNeg + ta (nI c + 1).toNatClampNeg = nI (x + y) := by
    rw [e, e1, hx, hy, nI_add]
  have n2 : ¬ (2 : Int32) = 0 := by decide
  by_cases h : 128 < x + y
  · rw [if_pos h, if_pos h] at K
    refine ⟨w, w1, br_f (by rw [hs]; exact nI_ge (a := 128) h (by omega)) ⟨w, n2, w,
      nm_r (e' := upd ta c (nI ((x + 1) / 2))) (by rw [e, hx, xq_half bx]) ⟨w1, n2, w1,
      nm_r (e' := upd (upd ta c (nI ((x + 1) / 2))) (c + 1) (nI ((y + 1) / 2)))
        (by rw [e1, pk_un (by omega), hy, xq_half by']) (K _ ?_ pk_us (fun j h1 h2 => ?_))⟩⟩⟩
    · rw [pk_un (by omega), pk_us]
    · rw [pk_un h2, pk_un h1]
  · rw [if_neg h, if_neg h] at K
    exact ⟨w, w1, br_t (by rw [hs]; exact nI_le (b := 128) (by omega) (by omega)) (K ta hx hy (fun _ _ _ => rfl))⟩

theorem xq_l119 {post : SX → Prop} {s n c b : Nat} {sA tA : Nat → Nat} (hs : s < 3) (hn : n ≤ 32) (hc : c < n)
    (hb : b < 2) (hT : ma_T n tA)
    (hp : ∀ i, i < 2 * n → su (64 * s + i) = nI (sA i) ∧ ta (64 * s + i) = nI (tA i))
    (K : ∀ cS' ta' : Nat → Int32, cS' s = nI (sA (2 * c + b)) → (∀ j, j ≠ s → cS' j = cS j) →
      (∀ i, i < 2 * n → ta' (64 * s + i) = nI (ma_bp c (2 * c + b) tA i)) →
      (∀ j, (j < 64 * s ∨ 64 * s + 64 ≤ j) → ta' j = ta j) → post (fw, fm, fp, fq, fn, fo, fd, sT, cS', fT, su, ta', lo, hi, cA, wi, dr, co, cL, bL, bA, bB)) :
    wX_learn_119 post (nI s) (nI (64 * s + 2 * c)) (nI (64 * s + 2 * c + b)) fw fm fp fq fn fo fd sT cS fT su ta lo hi cA wi dr co cL bL bA bB := by
  have es : (nI s).toNatClampNeg = s := xq_cl (by omega)
  have ws : vp_in (nI s) 3 := xq_i3 hs
  have e : (nI (64 * s + 2 * c + b)).toNatClampNeg = 64 * s + 2 * c + b := xq_cl (by omega)
  have w : vp_in (nI (64 * s + 2 * c + b)) 192 := xq_i192 (by omega)
  obtain ⟨p1, p2⟩ := hp (2 * c + b) (by omega)
  have b0 := hT.2 c hc
  have eE : 64 * s + (2 * c + b) = 64 * s + 2 * c + b := by omega
  rw [eE] at p1 p2
  -- the counts behind the growth
  have up : ∀ i, i < 2 * n → upd ta (64 * s + 2 * c + b) (nI (tA (2 * c + b) + 4)) (64 * s + i) = nI (ma_up (2 * c + b) tA i) := by
    intro i hi
    unfold ma_up
    by_cases k : i = 2 * c + b
    · subst k
      rw [if_pos rfl, eE, pk_us]
    · rw [if_neg k, pk_un (by omega)]
      exact (hp i hi).2
  have u0 := up (2 * c) (by omega)
  have u1 := up (2 * c + 1) (by omega)
  rw [show 64 * s + (2 * c + 1) = 64 * s + 2 * c + 1 by omega] at u1
  have bu : ∀ i, i = 2 * c ∨ i = 2 * c + 1 → ma_up (2 * c + b) tA i < 1000 := by
    intro i hi
    unfold ma_up
    rcases hi with rfl | rfl <;> split <;> omega
  refine ⟨w, w, nm_r (e' := upd ta (64 * s + 2 * c + b) (nI (tA (2 * c + b) + 4)))
    (by rw [e, p2]; exact congrArg (upd ta _) (nI_add _ 4)) (xq_halve (by omega) u0 u1 (bu _ (Or.inl rfl)) (bu _ (Or.inr rfl))
      (fun ta' k0 k1 k2 => ⟨w, ws, nm_r (e' := upd cS s (nI (sA (2 * c + b)))) (by rw [es, e, p1])
        (K _ ta' pk_us (fun j hj => pk_un hj) (fun i hi => ?_) (fun j hj => ?_))⟩))⟩
  · by_cases i0 : i = 2 * c
    · subst i0
      rw [k0]
      unfold ma_bp
      by_cases q : 128 < ma_up (2 * c + b) tA (2 * c) + ma_up (2 * c + b) tA (2 * c + 1)
      · rw [if_pos q, if_pos ⟨q, Or.inl rfl⟩]
      · rw [if_neg q, if_neg (fun z => q z.1)]
    · by_cases i1 : i = 2 * c + 1
      · subst i1
        rw [show 64 * s + (2 * c + 1) = 64 * s + 2 * c + 1 by omega, k1]
        unfold ma_bp
        by_cases q : 128 < ma_up (2 * c + b) tA (2 * c) + ma_up (2 * c + b) tA (2 * c + 1)
        · rw [if_pos q, if_pos ⟨q, Or.inr rfl⟩]
        · rw [if_neg q, if_neg (fun z => q z.1)]
      · rw [k2 _ (by omega) (by omega), up i hi]
        unfold ma_bp
        rw [if_neg (by omega)]
  · rw [k2 j (by omega) (by omega), pk_un (by omega)]

-- cloning
theorem xq_por {post : Int64 → Prop} {x : Int64} {y z : Int32} {a p w : Nat} (hx : x = lN a) (hy : y = nI p)
    (hz : z = nI w) (hw : 1 ≤ w) (ba : a < 4294967296) (bp : p < 1000) (bw : w < 1000)
    (h : post (lN (a * p / w))) : wpX_portion post x y z := by
  subst hx hy hz
  have bm : a * p < 2 ^ 63 := by
    have : a * p ≤ 4294967296 * 1000 := Nat.mul_le_mul (by omega) (by omega)
    omega
  refine br_t (nI_le (a := 1) hw (by omega)) ⟨?_, ?_⟩
  · rw [nI_l (by omega)]
    intro z
    have := (pk_lEQ (a := w) (b := 0) (by omega) (by omega)).mp z
    omega
  · rw [nI_l (by omega), nI_l (by omega), lN_mul, pk_lDiv bm (by omega) (by omega)]
    exact h

theorem xq_alo {post : Int32 → Prop} {x : Int32} {v : Nat} (hx : x = nI v) (bv : v < 1000) (h : post (nI (ma_1 v))) :
    wpX_atLeastOne post x := by
  subst hx
  unfold ma_1 at h
  by_cases c : v < 1
  · rw [if_pos c] at h
    exact br_f (nI_ge (b := 1) c (by omega)) h
  · rw [if_neg c] at h
    exact br_t (nI_le (a := 1) (by omega) (by omega)) h

theorem xq_cl27 {post : SX → Prop} {n x T C P W v : Nat} {x1 x2 x5 : Int32} (hx : x < 2) (hT : T + 1 < 192)
    (hC : C + 1 < 192) (hne : T + x ≠ C + x) (hv : ta (T + x) = nI v) (bv : v < 200) (bP : P ≤ W) (hW : 1 ≤ W) (bW : W < 1000)
    (h : wX_cloneTarget_27 post x1 x2 (nI T) (nI W) x5 (nI C) (nI P) fw fm fp fq fn fo fd n (nI (x + 1))
      sT cS fT (upd su (C + x) (su (T + x))) (upd (upd ta (C + x) (nI (ma_1 (v * P / W)))) (T + x) (nI (ma_1 (v - v * P / W)))) lo hi cA wi dr co cL bL bA bB) :
    wX_cloneTarget_27 post x1 x2 (nI T) (nI W) x5 (nI C) (nI P) fw fm fp fq fn fo fd (n + 1) (nI x) sT cS fT su ta lo hi cA wi dr co cL bL bA bB := by
  rw [wX_cloneTarget_27]
  have eT : (nI T + nI x).toNatClampNeg = T + x := by rw [nI_add]; exact xq_cl (by omega)
  have eC : (nI C + nI x).toNatClampNeg = C + x := by rw [nI_add]; exact xq_cl (by omega)
  have wT : vp_in (nI T + nI x) 192 := by rw [nI_add]; exact xq_i192 (by omega)
  have wC : vp_in (nI C + nI x) 192 := by rw [nI_add]; exact xq_i192 (by omega)
  have sq : v * P / W ≤ v := ma_sr bP
  refine br_f (nI_ge (b := 2) hx (by omega)) ⟨wT, xq_por (a := v) (by rw [eT, hv]; exact nI_l (by omega)) rfl rfl hW (by omega) (by omega) bW ?_⟩
  refine ⟨wT, wC, nm_r (e' := upd su (C + x) (su (T + x))) (by rw [eC, eT])
    (xq_alo (v := v * P / W) (lN_i _) (by omega) ⟨wC, nm_r (e' := upd ta (C + x) (nI (ma_1 (v * P / W)))) (by rw [eC]) ⟨wT,
      xq_alo (v := v - v * P / W) ?_ (Nat.lt_of_le_of_lt (Nat.sub_le _ _) (by omega)) ⟨wT, nm_r (e' := upd (upd ta (C + x) (nI (ma_1 (v * P / W)))) (T + x) (nI (ma_1 (v - v * P / W)))) (by rw [eT])
        (nm_r (nI_1 x) h)⟩⟩⟩)⟩
  rw [eT, pk_un hne, hv, lN_i]
  exact pk_sub sq

theorem xq_clone {post : SX → Prop} {s n e : Nat} {sA tA : Nat → Nat} (hs : s < 3) (hn : n < 32) (he : e < 2 * n)
    (hT : ma_T n tA) (hu : sA e < n) (hst : sT s = nI n)
    (hw : tA e ≤ tA (2 * sA e) + tA (2 * sA e + 1))
    (hp : ∀ i, i < 2 * n → su (64 * s + i) = nI (sA i) ∧ ta (64 * s + i) = nI (tA i))
    (K : ∀ sT' su' ta' : Nat → Int32, sT' s = nI (n + 1) → (∀ j, j ≠ s → sT' j = sT j) →
      (∀ i, i < 2 * (n + 1) → su' (64 * s + i) = nI (ma_cs n e sA i) ∧ ta' (64 * s + i) = nI (ma_ct n e sA tA i)) →
      (∀ j, (j < 64 * s ∨ 64 * s + 64 ≤ j) → su' j = su j ∧ ta' j = ta j) → post (fw, fm, fp, fq, fn, fo, fd, sT', cS, fT, su', ta', lo, hi, cA, wi, dr, co, cL, bL, bA, bB)) :
    wpX_cloneTarget post (fw, fm, fp, fq, fn, fo, fd, sT, cS, fT, su, ta, lo, hi, cA, wi, dr, co, cL, bL, bA, bB) (nI s) (nI (64 * s + e)) (nI (64 * s + 2 * sA e)) (nI (tA (2 * sA e) + tA (2 * sA e + 1))) := by
  have es : (nI s).toNatClampNeg = s := xq_cl (by omega)
  have ws : vp_in (nI s) 3 := xq_i3 hs
  have eE : (nI (64 * s + e)).toNatClampNeg = 64 * s + e := xq_cl (by omega)
  have wE : vp_in (nI (64 * s + e)) 192 := xq_i192 (by omega)
  obtain ⟨a0, a1⟩ := hp (2 * sA e) (by omega)
  obtain ⟨c0, c1⟩ := hp (2 * sA e + 1) (by omega)
  have bT := hT.2 (sA e) hu
  have l0 := hT.1 (2 * sA e) (by omega)
  rw [show 64 * s + (2 * sA e + 1) = 64 * s + 2 * sA e + 1 by omega] at c0 c1
  refine ⟨ws, nm_r (e' := nI n) (by rw [es, hst]) (xq_cell rfl ⟨wE, nm_r (e' := nI (tA e)) (by rw [eE]; exact (hp e he).2) ⟨3, ?_⟩⟩)⟩
  refine xq_cl27 (x := 0) (v := tA (2 * sA e)) (by omega) (by omega) (by omega) (by omega) a1 (by omega) hw (by omega) (by omega) ?_
  refine xq_cl27 (x := 1) (v := tA (2 * sA e + 1)) (by omega) (by omega) (by omega) (by omega)
    (by rw [pk_un (by omega), pk_un (by omega)]; exact c1) (by omega) hw (by omega) (by omega) ?_
  rw [wX_cloneTarget_27]
  refine br_t (nI_le (a := 2) (by omega) (by omega)) ⟨wE, nm_e ⟨ws, nm_r (e' := upd sT s (nI (n + 1))) (by rw [es, nI_1]) ?_⟩⟩
  rw [eE]
  refine K _ _ _ pk_us (fun j hj => pk_un hj) (fun i hi => ⟨?_, ?_⟩) (fun j hj => ⟨?_, ?_⟩)
  · unfold ma_cs
    by_cases k : i = e
    · subst k
      rw [if_pos rfl, pk_us]
    · rw [if_neg k, pk_un (by omega)]
      by_cases k1 : i = 2 * n + 1
      · subst k1
        rw [if_neg (by omega), if_pos rfl, show 64 * s + (2 * n + 1) = 64 * s + 2 * n + 1 by omega, pk_us, pk_un (by omega)]
        exact c0
      · rw [pk_un (by omega)]
        by_cases k0 : i = 2 * n
        · subst k0
          rw [if_pos rfl]
          exact pk_us.trans a0
        · rw [if_neg k0, if_neg k1, pk_un (by omega)]
          exact (hp i (by omega)).1
  · unfold ma_ct
    by_cases t1 : i = 2 * sA e + 1
    · subst t1
      rw [if_neg (by omega), if_neg (by omega), if_pos (Or.inr rfl), show 64 * s + (2 * sA e + 1) = 64 * s + 2 * sA e + 1 by omega, pk_us]
    · rw [pk_un (by omega)]
      by_cases k1 : i = 2 * n + 1
      · subst k1
        rw [if_neg (by omega), if_pos rfl, show 64 * s + (2 * n + 1) = 64 * s + 2 * n + 1 by omega, pk_us]
      · rw [pk_un (by omega)]
        by_cases t0 : i = 2 * sA e
        · subst t0
          rw [if_neg (by omega), if_neg (by omega), if_pos (Or.inl rfl)]
          exact pk_us
        · rw [pk_un (by omega)]
          by_cases k0 : i = 2 * n
          · subst k0
            rw [if_pos rfl]
            exact pk_us
          · rw [if_neg k0, if_neg k1, if_neg (by omega), pk_un (by omega)]
            exact (hp i (by omega)).2
  · rw [pk_un (by omega), pk_un (by omega), pk_un (by omega)]
  · rw [pk_un (by omega), pk_un (by omega), pk_un (by omega), pk_un (by omega)]

theorem xq_slt {a b c : Nat} (ha : a < 1000) (hb : b < 1000) (hc : c < 1000) : nI a - nI b < nI c ↔ a < b + c := by
  rw [Int32.lt_iff_toInt_lt, pk_sub_toInt (by omega) (by omega), nI_toInt (by omega)]
  omega

theorem xq_learn {post : SX → Prop} {s b wd mx t1 t2 p : Nat} {A : Nat × Nat × Nat × (Nat → Nat) × (Nat → Nat)}
    (hs : s < 3) (hb : b < 2) (hw : wd ≤ 4) (hm : mx ≤ 32) (h1 : t1 < 1000) (h2 : t2 < 1000) (hp : p < 1000) (hI : ma_I mx p A)
    (hA : xp_A s A sT cS fT su ta)
    (K : ∀ sT' cS' fT' su' ta' : Nat → Int32, xp_A s (ma_ln wd mx t1 t2 b A) sT' cS' fT' su' ta' →
      xp_F s sT cS fT su ta sT' cS' fT' su' ta' →
      post (nI wd, nI mx, nI t1, nI t2, fn, fo, fd, sT', cS', fT', su', ta', lo, hi, cA, wi, dr, co, cL, bL, bA, bB)) :
    wpX_learn post (nI wd, nI mx, nI t1, nI t2, fn, fo, fd, sT, cS, fT, su, ta, lo, hi, cA, wi, dr, co, cL, bL, bA, bB) (nI s) (nI b) := by
  obtain ⟨n, c, fl, sA, tA⟩ := A
  obtain ⟨i1, i2, i3, i4, i5, i6⟩ := hI
  obtain ⟨a1, a2, a3, a4⟩ := hA
  dsimp only at i1 i2 i3 i4 i5 i6 a1 a2 a3 a4
  have es : (nI s).toNatClampNeg = s := xq_cl (by omega)
  have ws : vp_in (nI s) 3 := xq_i3 hs
  have eE : (nI (64 * s + 2 * c + b)).toNatClampNeg = 64 * s + (2 * c + b) := by
    rw [Nat.add_assoc]
    exact xq_cl (by omega)
  have wE : vp_in (nI (64 * s + 2 * c + b)) 192 := xq_i192 (by omega)
  obtain ⟨e1, e2⟩ := a4 (2 * c + b) (by omega)
  have ht : sA (2 * c + b) < n := i5 _ (by omega)
  generalize hq : sA (2 * c + b) = t at ht
  have eT : (nI (64 * s + 2 * t)).toNatClampNeg = 64 * s + 2 * t := xq_cl (by omega)
  have eT1 : (nI (64 * s + 2 * t) + 1).toNatClampNeg = 64 * s + (2 * t + 1) := xq_cl1 (by omega)
  have wT : vp_in (nI (64 * s + 2 * t)) 192 := xq_i192 (by omega)
  have wT1 : vp_in (nI (64 * s + 2 * t) + 1) 192 := xq_i1 (by omega)
  have f0 := (a4 (2 * t) (by omega)).2
  have f1 := (a4 (2 * t + 1) (by omega)).2
  have bT := i6.2 t ht
  have bE := i6.2 c i3
  have bE' : tA (2 * c + b) < 200 := by
    have : b = 0 ∨ b = 1 := by omega
    rcases this with rfl | rfl
    · show tA (2 * c) < 200
      omega
    · omega
  -- no clone, no flush
  have plain : ¬ (t1 ≤ tA (2 * c + b) ∧ t2 + tA (2 * c + b) ≤ tA (2 * t) + tA (2 * t + 1)) →
      wX_learn_119 post (nI s) (nI (64 * s + 2 * c)) (nI (64 * s + 2 * c + b)) (nI wd) (nI mx) (nI t1) (nI t2) fn fo fd sT cS fT su ta lo hi cA wi dr co cL bL bA bB := by
    intro no
    refine xq_l119 hs (by omega) i3 hb i6 a4 (fun cS' ta' k1 k2 k3 k4 => K _ _ _ _ _ ?_ ?_)
    · have e : ma_ln wd mx t1 t2 b (n, c, fl, sA, tA) = (n, sA (2 * c + b), fl, sA, ma_bp c (2 * c + b) tA) := by
        unfold ma_ln
        dsimp only
        rw [hq, if_neg no]
      rw [e]
      exact ⟨a1, k1, a3, fun i hi => ⟨(a4 i hi).1, k3 i hi⟩⟩
    · exact ⟨fun j hj => ⟨rfl, k2 j hj, rfl⟩, fun j hj => ⟨rfl, k4 j hj⟩⟩
  refine ⟨ws, xq_cell (c := c) (by rw [es]; exact a2) (nm_r (nI_add _ _) ⟨wE, xq_cell (c := t) (by rw [eE, e1, hq]) ⟨wT, wT1,
    nm_r (e' := nI (tA (2 * t) + tA (2 * t + 1))) (by rw [eT, eT1, f0, f1, nI_add]) ⟨wE, ?_⟩⟩⟩)⟩
  by_cases q1 : tA (2 * c + b) < t1
  · exact br_t (by rw [eE, e2]; exact nI_lt q1 (by omega)) (plain (by omega))
  · refine br_f (by rw [eE, e2]; exact nI_nlt (by omega) (by omega)) ⟨wE, ?_⟩
    by_cases q2 : tA (2 * t) + tA (2 * t + 1) < tA (2 * c + b) + t2
    · exact br_t (by rw [eE, e2]; exact (xq_slt (by omega) (by omega) h2).mpr q2) (plain (by omega))
    · refine br_f (by rw [eE, e2]; exact fun z => q2 ((xq_slt (by omega) (by omega) h2).mp z)) ⟨ws, ?_⟩
      have yes : t1 ≤ tA (2 * c + b) ∧ t2 + tA (2 * c + b) ≤ tA (2 * t) + tA (2 * t + 1) := by omega
      by_cases q3 : n < mx
      · refine br_t (by rw [es, a1]; exact nI_lt q3 (by omega)) ?_
        have e : ma_ln wd mx t1 t2 b (n, c, fl, sA, tA) =
            (n + 1, n, fl, ma_cs n (2 * c + b) sA, ma_bp c (2 * c + b) (ma_ct n (2 * c + b) sA tA)) := by
          unfold ma_ln
          dsimp only
          rw [hq, if_pos yes, if_neg (by omega)]
        rw [e] at K
        rw [Nat.add_assoc (64 * s)]
        subst hq
        refine xq_clone hs (by omega) (by omega) i6 ht a1 (by omega) a4 (fun sT' su' ta' g1 g2 g3 g4 => ?_)
        have hT' : ma_T (n + 1) (ma_ct n (2 * c + b) sA tA) := ma_T_ct i6 ht (by omega)
        have := xq_l119 (post := post) (s := s) (n := n + 1) (c := c) (b := b) (sA := ma_cs n (2 * c + b) sA)
          (tA := ma_ct n (2 * c + b) sA tA) (fw := nI wd) (fm := nI mx) (fp := nI t1) (fq := nI t2) (fn := fn) (fo := fo) (fd := fd)
          (sT := sT') (cS := cS) (fT := fT) (su := su') (ta := ta') (lo := lo) (hi := hi) (cA := cA) (wi := wi) (dr := dr)
          (co := co) (cL := cL) (bL := bL) (bA := bA) (bB := bB) hs (by omega) (by omega) hb hT' g3
          (fun cS' ta'' k1 k2 k3 k4 => K _ _ _ _ _ ⟨g1, ?_, a3, fun i hi => ⟨(g3 i hi).1, k3 i hi⟩⟩
            ⟨fun j hj => ⟨g2 j hj, k2 j hj, rfl⟩, fun j hj => ⟨(g4 j hj).1, (k4 j hj).trans (g4 j hj).2⟩⟩)
        · rw [Nat.add_assoc (64 * s)] at this
          exact this
        · rw [k1]
          unfold ma_cs
          rw [if_pos rfl]
      · refine br_f (by rw [es, a1]; exact nI_nlt (by omega) (by omega)) ?_
        have e : ma_ln wd mx t1 t2 b (n, c, fl, sA, tA) = ma_sh wd (fl + 1) := by
          unfold ma_ln
          dsimp only
          rw [hq, if_pos yes, if_pos (by omega)]
        rw [e] at K
        refine xq_shape hs hw (fun sT' cS' su' ta' g1 g2 => ?_)
        have fs : fT (nI s).toNatClampNeg + 1 = nI (fl + 1) := by rw [es, a3, nI_1]
        refine ⟨ws, ws, nm_r (e' := upd fT s (nI (fl + 1))) (by rw [fs, es]) (K _ _ _ _ _ (g1 _ _ pk_us) ⟨fun j hj => ?_, g2.2⟩)⟩
        obtain ⟨x, y, _⟩ := g2.1 j hj
        exact ⟨x, y, pk_un hj⟩
end
