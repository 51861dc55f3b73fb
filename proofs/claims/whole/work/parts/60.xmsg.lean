-- messages; the component's state as a picture of them
section
variable {fw fm fp fq fn fo fd : Int32} {sT cS fT su ta : Nat → Int32} {lo hi : Nat → Int64} {cA : Nat → Int32} {wi : Nat → Int64} {dr co cL bL bA bB : Nat → Int32}
variable {pr : Nat × Nat × Nat × Nat} {M : Nat → Nat → Nat} {L : Nat → Nat} {rs rp : Nat}

def mp_a (pr : Nat × Nat × Nat × Nat) (m : Nat → Nat) (p : Nat) : Nat × Nat × Nat × (Nat → Nat) × (Nat → Nat) :=
  ma_au pr.1 pr.2.1 pr.2.2.1 pr.2.2.2 m p

def mp_e (pr : Nat × Nat × Nat × Nat) (m : Nat → Nat) (p : Nat) : Nat × Nat × Nat × (Nat → Nat) :=
  mc_en (ma_z pr.1 pr.2.1 pr.2.2.1 pr.2.2.2 m) (ma_w pr.1 pr.2.1 pr.2.2.1 pr.2.2.2 m) m p

def mr_B (pr : Nat × Nat × Nat × Nat) : Prop :=
  1 ≤ pr.1 ∧ pr.1 ≤ 4 ∧ 8 ≤ pr.2.1 ∧ pr.2.1 ≤ 32 ∧ pr.2.2.1 ≤ 64 ∧ pr.2.2.2 ≤ 64

theorem mp_a_cg {m m' : Nat → Nat} {p : Nat} (h : ∀ j, j < p → m j = m' j) : mp_a pr m p = mp_a pr m' p :=
  ma_au_cg p h

theorem mp_e_cg {m m' : Nat → Nat} {p : Nat} (h : ∀ j, j < p → m j = m' j) : mp_e pr m p = mp_e pr m' p := by
  refine mc_en_cg p (fun j hj => ?_)
  have e := ma_au_cg (wd := pr.1) (mx := pr.2.1) (t1 := pr.2.2.1) (t2 := pr.2.2.2) j (fun i hi => h i (by omega))
  refine ⟨?_, ?_, h j hj⟩
  · unfold ma_z
    rw [e]
  · unfold ma_w
    rw [e]

theorem mp_I {m : Nat → Nat} (hB : mr_B pr) (hm : ∀ j, m j < 2) (p : Nat) : ma_I pr.2.1 p (mp_a pr m p) := by
  obtain ⟨b1, b2, b3, b4, b5, b6⟩ := hB
  exact ma_I_au p b1 (by omega) (fun j _ => hm j)

theorem mp_zw {m : Nat → Nat} (hB : mr_B pr) (hm : ∀ j, m j < 2) (p : Nat) :
    1 ≤ ma_z pr.1 pr.2.1 pr.2.2.1 pr.2.2.2 m p ∧ ma_z pr.1 pr.2.1 pr.2.2.1 pr.2.2.2 m p < ma_w pr.1 pr.2.1 pr.2.2.1 pr.2.2.2 m p ∧
    ma_w pr.1 pr.2.1 pr.2.2.1 pr.2.2.2 m p ≤ 128 := by
  obtain ⟨b1, b2, b3, b4, b5, b6⟩ := hB
  exact ma_zw b1 (by omega) (fun j _ => hm j)

theorem mp_V {m : Nat → Nat} (hB : mr_B pr) (hm : ∀ j, m j < 2) (p : Nat) : mc_Iv p (mp_e pr m p) :=
  mc_Iv_en p (fun q _ => mp_zw hB hm q)

-- keeping
theorem xd_keep {s t N : Nat} {r : Nat × Nat × Nat × (Nat → Nat)} {B : Nat → Nat} {lo' hi' : Nat → Int64} {cA' : Nat → Int32}
    {wi' : Nat → Int64} (h : xd_P s r N B lo hi cA wi) (f : xd_F t lo hi cA wi lo' hi' cA' wi') (hst : s ≠ t) :
    xd_P s r N B lo' hi' cA' wi' := by
  obtain ⟨a, b, c, d⟩ := h
  obtain ⟨e, f, g, i⟩ := f s hst
  exact ⟨e.trans a, f.trans b, g.trans c, i.trans d⟩

theorem xd_keepE {s N : Nat} {r : Nat × Nat × Nat × (Nat → Nat)} {B : Nat → Nat} {lo' hi' : Nat → Int64} {cA' : Nat → Int32}
    (h : xd_P s r N B lo hi cA wi) (f : xe_F lo hi cA lo' hi' cA') (hs : s ≠ 0) : xd_P s r N B lo' hi' cA' wi := by
  obtain ⟨a, b, c, d⟩ := h
  obtain ⟨e, f, g⟩ := f s hs
  exact ⟨e.trans a, f.trans b, g.trans c, d⟩

theorem xe_keep {t : Nat} {r : Nat × Nat × Nat × (Nat → Nat)} {lo' hi' : Nat → Int64} {cA' : Nat → Int32} {wi' : Nat → Int64}
    (h : xe_P r lo hi cA dr) (f : xd_F t lo hi cA wi lo' hi' cA' wi') (ht : 0 ≠ t) : xe_P r lo' hi' cA' dr := by
  obtain ⟨a, b, c, d⟩ := h
  obtain ⟨e, f, g, _⟩ := f 0 ht
  exact ⟨e.trans a, f.trans b, g.trans c, d⟩

-- the whole picture: m, p the message being written; M, L the slots; rs, rp the reader (rs = 3: closed)
def mr_os (rs : Nat) : Int32 := if rs < 3 then nI rs else -4

def mr_G (M : Nat → Nat → Nat) (L : Nat → Nat) (rs rp : Nat) : Prop :=
  (∀ r j, M r j < 2) ∧ (∀ r, L r ≤ 80) ∧ (rs < 3 → 1 ≤ L rs ∧ rp ≤ L rs) ∧ (¬ rs < 3 → rp = 0)

def mr_C (pr : Nat × Nat × Nat × Nat) (m : Nat → Nat) (n q : Nat) (co cL : Nat → Int32) : Prop :=
  xr_C q (mc_fk (mp_e pr m n)) (mc_fb (mp_e pr m n)) co cL

def mr_D (pr : Nat × Nat × Nat × Nat) (m : Nat → Nat) (n s p : Nat) (lo hi : Nat → Int64) (cA : Nat → Int32)
    (wi : Nat → Int64) : Prop :=
  xd_P s (mp_e pr m p) (mc_fk (mp_e pr m n)) (mc_fb (mp_e pr m n)) lo hi cA wi

def mr_X (pr : Nat × Nat × Nat × Nat) (m : Nat → Nat) (p : Nat) (M : Nat → Nat → Nat) (L : Nat → Nat) (rs rp : Nat)
    (Z : (Nat → Int32) → (Nat → Int32) → Prop) (u : SX) : Prop :=
  match u with
  | (fw, fm, fp, fq, fn, fo, fd, sT, cS, fT, su, ta, lo, hi, cA, wi, dr, co, cL, bL, bA, bB) =>
    (fw = nI pr.1 ∧ fm = nI pr.2.1 ∧ fp = nI pr.2.2.1 ∧ fq = nI pr.2.2.2) ∧ (fn = nI p ∧ fo = mr_os rs ∧ fd = nI rp) ∧
    (xp_A 0 (mp_a pr m p) sT cS fT su ta ∧ xe_P (mp_e pr m p) lo hi cA dr) ∧
    (xp_A 1 (mp_a pr (M rs) rp) sT cS fT su ta ∧ (rs < 3 → mr_D pr (M rs) (L rs) 1 rp lo hi cA wi)) ∧
    (∀ q, q < 3 → bL q = nI (L q) ∧ (1 ≤ L q → mr_C pr (M q) (L q) q co cL)) ∧ Z bA bB

variable {Z : (Nat → Int32) → (Nat → Int32) → Prop}

theorem mr_X_cg {m m' : Nat → Nat} {p : Nat} {u : SX} (h : mr_X pr m p M L rs rp Z u) (e : ∀ j, j < p → m j = m' j) :
    mr_X pr m' p M L rs rp Z u := by
  obtain ⟨fw, fm, fp, fq, fn, fo, fd, sT, cS, fT, su, ta, lo, hi, cA, wi, dr, co, cL, bL, bA, bB⟩ := u
  obtain ⟨h1, h2, h3, h4⟩ := h
  rw [mp_a_cg e, mp_e_cg e] at h3
  exact ⟨h1, h2, h3, h4⟩

-- one bit written
theorem xm_wb {post : SX → Prop} {m : Nat → Nat} {p : Nat} {u : SX} {x : Int32} (hB : mr_B pr) (hm : ∀ j, m j < 2)
    (hM : ∀ r j, M r j < 2) (hp : p < 80) (h : mr_X pr m p M L rs rp Z u) (hx : x = nI (m p))
    (K : ∀ u', mr_X pr m (p + 1) M L rs rp Z u' → post u') : wpX_writeBit post u x := by
  subst hx
  obtain ⟨fw, fm, fp, fq, fn, fo, fd, sT, cS, fT, su, ta, lo, hi, cA, wi, dr, co, cL, bL, bA, bB⟩ := u
  obtain ⟨⟨rfl, rfl, rfl, rfl⟩, ⟨rfl, rfl, rfl⟩, ⟨hA, hE⟩, ⟨hR, hD⟩, hS, hZ⟩ := h
  have hI := mp_I hB hm p
  have hV := mp_V hB hm p
  have hV' := mp_V hB hm (p + 1)
  have hIr := (mp_I hB (hM rs) rp).2.1
  obtain ⟨b1, b2, b3, b4, b5, b6⟩ := hB
  obtain ⟨i1, i2, i3, i4, i5, i6⟩ := hI
  have hk : (mp_e pr m (p + 1)).2.2.1 ≤ 81 := by
    have := hV'.2.2.1
    omega
  have hlt : (mp_e pr m p).1 < (mp_e pr m p).2.1 := by
    have := hV.1
    omega
  unfold wpX_writeBit
  refine xq_enc (c := (mp_a pr m p).2.1) (z := (mp_a pr m p).2.2.2.2 (2 * (mp_a pr m p).2.1))
    (y := (mp_a pr m p).2.2.2.2 (2 * (mp_a pr m p).2.1 + 1)) (b := m p) (r := mp_e pr m p) (hm p) (by omega) hA.2.1
    (hA.2.2.2 _ (by omega)).2 (hA.2.2.2 _ (by omega)).2 (i6.1 _ (by omega)) (i6.1 _ (by omega)) (i6.2 _ i3) hE hlt hV.2.1 hk
    (fun lo' hi' cA' dr' P F => ?_)
  refine xq_learn (s := 0) (p := p) (by omega) (hm p) b2 b4 (by omega) (by omega) (by omega) ⟨i1, i2, i3, i4, i5, i6⟩ hA
    (fun sT' cS' fT' su' ta' q1 q2 => nm_r (nI_1 p) (K _ ⟨⟨rfl, rfl, rfl, rfl⟩, ⟨rfl, rfl, rfl⟩, ⟨q1, P⟩,
      ⟨xp_keep hR (by omega) q2 (by omega), fun hr => xd_keepE (hD hr) F (by omega)⟩, hS, hZ⟩))

-- one bit read of a sealed message
theorem xq_rs {post : Int32 → SX → Prop} {s q N p : Nat} {m : Nat → Nat} (hB : mr_B pr) (hm : ∀ j, m j < 2) (hs : s < 3)
    (hq : q < 3) (hp : p < N) (hN : N ≤ 80) (hA : xp_A s (mp_a pr m p) sT cS fT su ta) (hD : mr_D pr m N s p lo hi cA wi)
    (hC : mr_C pr m N q co cL)
    (K : ∀ (sT' cS' fT' su' ta' : Nat → Int32) (lo' hi' : Nat → Int64) (cA' : Nat → Int32) (wi' : Nat → Int64),
      xp_A s (mp_a pr m (p + 1)) sT' cS' fT' su' ta' → xp_F s sT cS fT su ta sT' cS' fT' su' ta' →
      mr_D pr m N s (p + 1) lo' hi' cA' wi' → xd_F s lo hi cA wi lo' hi' cA' wi' →
      post (nI (m p)) (nI pr.1, nI pr.2.1, nI pr.2.2.1, nI pr.2.2.2, fn, fo, fd, sT', cS', fT', su', ta', lo', hi', cA', wi', dr, co, cL, bL, bA, bB)) :
    wpX_decodeBit post (nI pr.1, nI pr.2.1, nI pr.2.2.1, nI pr.2.2.2, fn, fo, fd, sT, cS, fT, su, ta, lo, hi, cA, wi, dr, co, cL, bL, bA, bB) (nI s) (nI q) := by
  have hI := mp_I hB hm p
  have hV := mp_V hB hm p
  obtain ⟨k1, k2, k3, k4⟩ := mc_back (z := ma_z pr.1 pr.2.1 pr.2.2.1 pr.2.2.2 m) (w := ma_w pr.1 pr.2.1 pr.2.2.1 pr.2.2.2 m) (m := m)
    (n := N) (fun q _ => mp_zw hB hm q) (N - p) p (by omega)
  obtain ⟨d0, d1⟩ := k4 hp
  have hlt : (mp_e pr m p).1 < (mp_e pr m p).2.1 := by
    have := hV.1
    omega
  obtain ⟨b1, b2, b3, b4, b5, b6⟩ := hB
  exact xq_dec (r := mp_e pr m p) hs hq (hm p) b2 b4 (by omega) (by omega) (by omega) hI hA hC hD hlt hV.2.1 rfl rfl d0 d1 K

theorem xm_b8 {b : Nat} (h : b < 2) : vp_nar .byte (nI b).toInt8.toInt32 = nI b := by
  rw [pk_vb]
  have : b = 0 ∨ b = 1 := by omega
  rcases this with rfl | rfl
  · decide
  · decide

-- a whole message decoded by the hidden side
theorem xq_da8_One {post : SX → Prop} {q N : Nat} {m : Nat → Nat} (hB : mr_B pr) (hm : ∀ j, m j < 2) (hq : q < 3) (hN : N ≤ 80)
    (eN : bL q = nI N) (hC : mr_C pr m N q co cL) (n : Nat) : ∀ (i : Nat) (sT cS fT su ta : Nat → Int32) (lo hi : Nat → Int64)
    (cA : Nat → Int32) (wi : Nat → Int64) (bA : Nat → Int32), i ≤ N → N < n + i → xp_A 2 (mp_a pr m i) sT cS fT su ta →
    mr_D pr m N 2 i lo hi cA wi → (∀ j, j < i → bA j = nI (m j)) →
    (∀ (sT' cS' fT' su' ta' : Nat → Int32) (lo' hi' : Nat → Int64) (cA' : Nat → Int32) (wi' : Nat → Int64) (bA' : Nat → Int32),
      xp_F 2 sT cS fT su ta sT' cS' fT' su' ta' → xd_F 2 lo hi cA wi lo' hi' cA' wi' → (∀ j, j < N → bA' j = nI (m j)) →
      post (nI pr.1, nI pr.2.1, nI pr.2.2.1, nI pr.2.2.2, fn, fo, fd, sT', cS', fT', su', ta', lo', hi', cA', wi', dr, co, cL, bL, bA', bB)) →
    wX_decodeAll__bitsOne_8 post (nI q) n (nI i) (nI pr.1) (nI pr.2.1) (nI pr.2.2.1) (nI pr.2.2.2) fn fo fd sT cS fT su ta lo hi cA wi dr co cL bL bA bB := by
  have eq : (nI q).toNatClampNeg = q := xq_cl (by omega)
  have wq : vp_in (nI q) 3 := xq_i3 hq
  induction n with
  | zero => intro i sT cS fT su ta lo hi cA wi bA h1 h2; omega
  | succ n ih =>
    intro i sT cS fT su ta lo hi cA wi bA h1 h2 hA hD hb K
    rw [wX_decodeAll__bitsOne_8]
    refine ⟨wq, ?_⟩
    by_cases e : i = N
    · subst e
      exact br_t (by rw [eq, eN]; exact nI_le (Nat.le_refl _) (by omega)) (K _ _ _ _ _ _ _ _ _ _ ⟨fun _ _ => ⟨rfl, rfl, rfl⟩, fun _ _ => ⟨rfl, rfl⟩⟩
        (fun _ _ => ⟨rfl, rfl, rfl, rfl⟩) hb)
    · refine br_f (by rw [eq, eN]; exact nI_ge (by omega) (by omega)) (xq_rs (s := 2) hB hm (by omega) hq (by omega) hN hA hD hC
        (fun sT' cS' fT' su' ta' lo' hi' cA' wi' q1 q2 q3 q4 => ⟨vp_in_nI (by omega) (by omega), nm_r (e' := upd bA i (nI (m i))) ?_ (nm_r (nI_1 i) ?_)⟩))
      · rw [xq_cl (by omega), xm_b8 (hm i)]
      · refine ih (i + 1) sT' cS' fT' su' ta' lo' hi' cA' wi' _ (by omega) (by omega) q1 q3 (fun j hj => ?_)
          (fun sT2 cS2 fT2 su2 ta2 lo2 hi2 cA2 wi2 bA2 r1 r2 r3 => K _ _ _ _ _ _ _ _ _ _ (xp_F_t q2 r1) (fun j hj => ?_) r3)
        · by_cases ji : j = i
          · rw [ji, pk_us]
          · rw [pk_un ji]
            exact hb j (by omega)
        · obtain ⟨x1, x2, x3, x4⟩ := r2 j hj
          obtain ⟨y1, y2, y3, y4⟩ := q4 j hj
          exact ⟨x1.trans y1, x2.trans y2, x3.trans y3, x4.trans y4⟩

theorem xq_da8_Two {post : SX → Prop} {q N : Nat} {m : Nat → Nat} (hB : mr_B pr) (hm : ∀ j, m j < 2) (hq : q < 3) (hN : N ≤ 80)
    (eN : bL q = nI N) (hC : mr_C pr m N q co cL) (n : Nat) : ∀ (i : Nat) (sT cS fT su ta : Nat → Int32) (lo hi : Nat → Int64)
    (cA : Nat → Int32) (wi : Nat → Int64) (bB : Nat → Int32), i ≤ N → N < n + i → xp_A 2 (mp_a pr m i) sT cS fT su ta →
    mr_D pr m N 2 i lo hi cA wi → (∀ j, j < i → bB j = nI (m j)) →
    (∀ (sT' cS' fT' su' ta' : Nat → Int32) (lo' hi' : Nat → Int64) (cA' : Nat → Int32) (wi' : Nat → Int64) (bB' : Nat → Int32),
      xp_F 2 sT cS fT su ta sT' cS' fT' su' ta' → xd_F 2 lo hi cA wi lo' hi' cA' wi' → (∀ j, j < N → bB' j = nI (m j)) →
      post (nI pr.1, nI pr.2.1, nI pr.2.2.1, nI pr.2.2.2, fn, fo, fd, sT', cS', fT', su', ta', lo', hi', cA', wi', dr, co, cL, bL, bA, bB')) →
    wX_decodeAll__bitsTwo_8 post (nI q) n (nI i) (nI pr.1) (nI pr.2.1) (nI pr.2.2.1) (nI pr.2.2.2) fn fo fd sT cS fT su ta lo hi cA wi dr co cL bL bA bB := by
  have eq : (nI q).toNatClampNeg = q := xq_cl (by omega)
  have wq : vp_in (nI q) 3 := xq_i3 hq
  induction n with
  | zero => intro i sT cS fT su ta lo hi cA wi bB h1 h2; omega
  | succ n ih =>
    intro i sT cS fT su ta lo hi cA wi bB h1 h2 hA hD hb K
    rw [wX_decodeAll__bitsTwo_8]
    refine ⟨wq, ?_⟩
    by_cases e : i = N
    · subst e
      exact br_t (by rw [eq, eN]; exact nI_le (Nat.le_refl _) (by omega)) (K _ _ _ _ _ _ _ _ _ _ ⟨fun _ _ => ⟨rfl, rfl, rfl⟩, fun _ _ => ⟨rfl, rfl⟩⟩
        (fun _ _ => ⟨rfl, rfl, rfl, rfl⟩) hb)
    · refine br_f (by rw [eq, eN]; exact nI_ge (by omega) (by omega)) (xq_rs (s := 2) hB hm (by omega) hq (by omega) hN hA hD hC
        (fun sT' cS' fT' su' ta' lo' hi' cA' wi' q1 q2 q3 q4 => ⟨vp_in_nI (by omega) (by omega), nm_r (e' := upd bB i (nI (m i))) ?_ (nm_r (nI_1 i) ?_)⟩))
      · rw [xq_cl (by omega), xm_b8 (hm i)]
      · refine ih (i + 1) sT' cS' fT' su' ta' lo' hi' cA' wi' _ (by omega) (by omega) q1 q3 (fun j hj => ?_)
          (fun sT2 cS2 fT2 su2 ta2 lo2 hi2 cA2 wi2 bB2 r1 r2 r3 => K _ _ _ _ _ _ _ _ _ _ (xp_F_t q2 r1) (fun j hj => ?_) r3)
        · by_cases ji : j = i
          · rw [ji, pk_us]
          · rw [pk_un ji]
            exact hb j (by omega)
        · obtain ⟨x1, x2, x3, x4⟩ := r2 j hj
          obtain ⟨y1, y2, y3, y4⟩ := q4 j hj
          exact ⟨x1.trans y1, x2.trans y2, x3.trans y3, x4.trans y4⟩

theorem xm_da_One {post : SX → Prop} {m : Nat → Nat} {p q : Nat} {u : SX} (hB : mr_B pr) (hm : ∀ j, m j < 2)
    (hG : mr_G M L rs rp) (hq : q < 3) (hL : 1 ≤ L q) (h : mr_X pr m p M L rs rp Z u)
    (K : ∀ u', mr_X pr m p M L rs rp (fun a b => (∀ j, j < L q → a j = nI (M q j)) ∧ ∃ a0, Z a0 b) u' → post u') :
    wpX_decodeAll__bitsOne post u (nI q) := by
  obtain ⟨fw, fm, fp, fq, fn, fo, fd, sT, cS, fT, su, ta, lo, hi, cA, wi, dr, co, cL, bL, bA, bB⟩ := u
  obtain ⟨⟨rfl, rfl, rfl, rfl⟩, h2, ⟨hA, hE⟩, ⟨hR, hD⟩, hS, hZ⟩ := h
  obtain ⟨g1, g2, g3, g4⟩ := hG
  have hI0 := (mp_I hB hm p).2.1
  have hI1 := (mp_I hB (g1 rs) rp).2.1
  obtain ⟨s1, s2⟩ := hS q hq
  have hB' := hB
  obtain ⟨b1, b2, b3, b4, b5, b6⟩ := hB'
  unfold wpX_decodeAll__bitsOne
  refine xq_start (s := 2) (by omega) hq b2 (s2 hL) (fun sT' cS' fT' su' ta' lo' hi' cA' wi' q1 q2 q3 q4 => ⟨L q + 1, ?_⟩)
  refine xq_da8_One hB (g1 q) hq (g2 q) s1 (s2 hL) (L q + 1) 0 sT' cS' fT' su' ta' lo' hi' cA' wi' bA (by omega) (by omega) q1 q3
    (fun j hj => by omega) (fun sT2 cS2 fT2 su2 ta2 lo2 hi2 cA2 wi2 bA2 r1 r2 r3 => K _ ?_)
  have f := xp_F_t q2 r1
  have d : xd_F 2 lo hi cA wi lo2 hi2 cA2 wi2 := by
    intro j hj
    obtain ⟨x1, x2, x3, x4⟩ := r2 j hj
    obtain ⟨y1, y2, y3, y4⟩ := q4 j hj
    exact ⟨x1.trans y1, x2.trans y2, x3.trans y3, x4.trans y4⟩
  exact ⟨⟨rfl, rfl, rfl, rfl⟩, h2, ⟨xp_keep hA (by omega) f (by omega), xe_keep hE d (by omega)⟩,
    ⟨xp_keep hR (by omega) f (by omega), fun hr => xd_keep (hD hr) d (by omega)⟩, hS, ⟨r3, _, hZ⟩⟩

theorem xm_da_Two {post : SX → Prop} {m : Nat → Nat} {p q : Nat} {u : SX} (hB : mr_B pr) (hm : ∀ j, m j < 2)
    (hG : mr_G M L rs rp) (hq : q < 3) (hL : 1 ≤ L q) (h : mr_X pr m p M L rs rp Z u)
    (K : ∀ u', mr_X pr m p M L rs rp (fun a b => (∀ j, j < L q → b j = nI (M q j)) ∧ ∃ b0, Z a b0) u' → post u') :
    wpX_decodeAll__bitsTwo post u (nI q) := by
  obtain ⟨fw, fm, fp, fq, fn, fo, fd, sT, cS, fT, su, ta, lo, hi, cA, wi, dr, co, cL, bL, bA, bB⟩ := u
  obtain ⟨⟨rfl, rfl, rfl, rfl⟩, h2, ⟨hA, hE⟩, ⟨hR, hD⟩, hS, hZ⟩ := h
  obtain ⟨g1, g2, g3, g4⟩ := hG
  have hI0 := (mp_I hB hm p).2.1
  have hI1 := (mp_I hB (g1 rs) rp).2.1
  obtain ⟨s1, s2⟩ := hS q hq
  have hB' := hB
  obtain ⟨b1, b2, b3, b4, b5, b6⟩ := hB'
  unfold wpX_decodeAll__bitsTwo
  refine xq_start (s := 2) (by omega) hq b2 (s2 hL) (fun sT' cS' fT' su' ta' lo' hi' cA' wi' q1 q2 q3 q4 => ⟨L q + 1, ?_⟩)
  refine xq_da8_Two hB (g1 q) hq (g2 q) s1 (s2 hL) (L q + 1) 0 sT' cS' fT' su' ta' lo' hi' cA' wi' bB (by omega) (by omega) q1 q3
    (fun j hj => by omega) (fun sT2 cS2 fT2 su2 ta2 lo2 hi2 cA2 wi2 bB2 r1 r2 r3 => K _ ?_)
  have f := xp_F_t q2 r1
  have d : xd_F 2 lo hi cA wi lo2 hi2 cA2 wi2 := by
    intro j hj
    obtain ⟨x1, x2, x3, x4⟩ := r2 j hj
    obtain ⟨y1, y2, y3, y4⟩ := q4 j hj
    exact ⟨x1.trans y1, x2.trans y2, x3.trans y3, x4.trans y4⟩
  exact ⟨⟨rfl, rfl, rfl, rfl⟩, h2, ⟨xp_keep hA (by omega) f (by omega), xe_keep hE d (by omega)⟩,
    ⟨xp_keep hR (by omega) f (by omega), fun hr => xd_keep (hD hr) d (by omega)⟩, hS, ⟨r3, _, hZ⟩⟩

-- the end of a message
theorem xq_fin {post : SX → Prop} {p : Nat} {r : Nat × Nat × Nat × (Nat → Nat)} (hV : mc_Iv p r) (hp : p ≤ 80)
    (hP : xe_P r lo hi cA dr)
    (K : ∀ cA' dr' : Nat → Int32, cA' 0 = nI (mc_fk r) → (∀ j, j < mc_fk r → dr' j = sb_b (mc_fb r j)) →
      (∀ j, j ≠ 0 → cA' j = cA j) → post (fw, fm, fp, fq, fn, fo, fd, sT, cS, fT, su, ta, lo, hi, cA', wi, dr', co, cL, bL, bA, bB)) : wpX_finishCode post (fw, fm, fp, fq, fn, fo, fd, sT, cS, fT, su, ta, lo, hi, cA, wi, dr, co, cL, bL, bA, bB) := by
  obtain ⟨f1, f2, f3, f4, f5, f6⟩ := mc_fin hV
  obtain ⟨l, h, k, bs⟩ := r
  obtain ⟨g1, g2, g3, g4, g5, g6⟩ := hV
  obtain ⟨el, eh, ek, ed⟩ := hP
  dsimp only at el eh ek ed g1 g2 g3 g4 g5 g6 f3
  by_cases c : 0 < l
  · have e : mc_fk (l, h, k, bs) = k + 1 := if_pos c
    rw [e] at K
    refine br_f (by rw [el]; exact fun t => absurd ((pk_lLE (b := 0) (by omega) (by omega)).mp t) (by omega))
      (xq_app (k := k) (v := l / 16777216 + 1) (by rw [el, xc_sh (by omega), lN_1]) (by omega) ek (fun cA' c1 c2 => K _ _ c1 (fun j hj => ?_) c2))
    by_cases jk : j = k
    · subst jk
      rw [pk_us]
      exact congrArg sb_b (if_pos ⟨c, rfl⟩).symm
    · rw [pk_un jk, ed j (by omega), f3 j (by omega)]
  · have e : mc_fk (l, h, k, bs) = k := if_neg c
    rw [e] at K
    refine br_t (by rw [el]; exact (pk_lLE (b := 0) (by omega) (by omega)).mpr (by omega)) (K _ _ ek (fun j hj => ?_) (fun _ _ => rfl))
    rw [ed j hj, f3 j hj]

theorem xq_sd2 {post : SX → Prop} {q k : Nat} {B : Nat → Nat} (hq : q < 3) (hk : k ≤ 81) (ek : cA 0 = nI k)
    (hd : ∀ j, j < k → dr j = sb_b (B j))
    (K : ∀ co' cL' bL' : Nat → Int32, (∀ j, j < k → co' (81 * q + j) = sb_b (B j)) →
      (∀ j, (j < 81 * q ∨ 81 * q + 81 ≤ j) → co' j = co j) → cL' q = nI k → (∀ j, j ≠ q → cL' j = cL j) → bL' q = fn →
      (∀ j, j ≠ q → bL' j = bL j) → post (fw, fm, fp, fq, fn, fo, fd, sT, cS, fT, su, ta, lo, hi, cA, wi, dr, co', cL', bL', bA, bB)) (n : Nat) :
    ∀ (i : Nat) (co1 : Nat → Int32), i ≤ k → k < n + i → (∀ j, j < i → co1 (81 * q + j) = sb_b (B j)) →
      (∀ j, (j < 81 * q ∨ 81 * q + 81 ≤ j) → co1 j = co j) →
      wX_storeDraft_2 post (nI q) fw fm fp fq fn fo fd n (nI i) sT cS fT su ta lo hi cA wi dr co1 cL bL bA bB := by
  have eq : (nI q).toNatClampNeg = q := xq_cl (by omega)
  have wq : vp_in (nI q) 3 := xq_i3 hq
  induction n with
  | zero => intro i co1 h1 h2; omega
  | succ n ih =>
    intro i co1 h1 h2 h3 h4
    rw [wX_storeDraft_2]
    by_cases e : i = k
    · subst e
      exact br_t (by rw [ek]; exact nI_le (Nat.le_refl _) (by omega)) ⟨wq, nm_r (e' := upd cL q (nI i)) (by rw [eq, ek]) ⟨wq,
        nm_r (e' := upd bL q fn) (by rw [eq]) (K _ _ _ h3 h4 pk_us (fun j hj => pk_un hj) pk_us (fun j hj => pk_un hj))⟩⟩
    · have ei : nI q * 81 + nI i = nI (81 * q + i) := by
        have a : nI q * 81 = nI (q * 81) := pk_mul q 81
        rw [a, nI_add, Nat.mul_comm q 81]
      refine br_f (by rw [ek]; exact nI_ge (by omega) (by omega)) ⟨vp_in_nI (by omega) (by omega), ?_, ?_⟩
      · rw [ei]
        exact vp_in_nI (by omega) (by omega)
      · refine nm_r (e' := upd co1 (81 * q + i) (sb_b (B i))) ?_ (nm_r (nI_1 i) (ih (i + 1) _ (by omega) (by omega) (fun j hj => ?_) (fun j hj => ?_)))
        · rw [ei, xq_cl (by omega), xq_cl (by omega), hd i (by omega)]
          simp only [sb_b, pk_vb]
        · by_cases ji : j = i
          · rw [ji, pk_us]
          · rw [pk_un (by omega)]
            exact h3 j (by omega)
        · rw [pk_un (by omega)]
          exact h4 j hj

-- a fresh writer, a closed reader
theorem xq_rw {post : SX → Prop} {wd : Nat} (hw : wd ≤ 4)
    (K : ∀ (sT' cS' fT' su' ta' : Nat → Int32) (lo' hi' : Nat → Int64) (cA' : Nat → Int32) (wi' : Nat → Int64),
      xp_A 0 (ma_sh wd 0) sT' cS' fT' su' ta' → xp_F 0 sT cS fT su ta sT' cS' fT' su' ta' →
      xe_P (0, 4294967295, 0, fun _ => 0) lo' hi' cA' dr → xd_F 0 lo hi cA wi lo' hi' cA' wi' →
      post (nI wd, fm, fp, fq, 0, fo, fd, sT', cS', fT', su', ta', lo', hi', cA', wi', dr, co, cL, bL, bA, bB)) :
    wpX_renewWriter post (nI wd, fm, fp, fq, fn, fo, fd, sT, cS, fT, su, ta, lo, hi, cA, wi, dr, co, cL, bL, bA, bB) := by
  unfold wpX_renewWriter
  refine xq_fresh (s := 0) (by omega) hw (fun sT' cS' fT' su' ta' a1 a2 => ?_)
  exact xq_fc (s := 0) (by omega) (fun lo' hi' cA' wi' b1 b2 b3 b4 b5 => K _ _ _ _ _ _ _ _ _ a1 a2
    ⟨b1, b2, b3, fun j hj => absurd hj (Nat.not_lt_zero j)⟩ b5)

theorem xq_cr {post : SX → Prop} {wd : Nat} (hw : wd ≤ 4)
    (K : ∀ (sT' cS' fT' su' ta' : Nat → Int32) (lo' hi' : Nat → Int64) (cA' : Nat → Int32) (wi' : Nat → Int64),
      xp_A 1 (ma_sh wd 0) sT' cS' fT' su' ta' → xp_F 1 sT cS fT su ta sT' cS' fT' su' ta' →
      xd_F 1 lo hi cA wi lo' hi' cA' wi' →
      post (nI wd, fm, fp, fq, fn, (-4), 0, sT', cS', fT', su', ta', lo', hi', cA', wi', dr, co, cL, bL, bA, bB)) :
    wpX_closeReader post (nI wd, fm, fp, fq, fn, fo, fd, sT, cS, fT, su, ta, lo, hi, cA, wi, dr, co, cL, bL, bA, bB) := by
  unfold wpX_closeReader
  refine xq_fresh (s := 1) (by omega) hw (fun sT' cS' fT' su' ta' a1 a2 => ?_)
  exact xq_fc (s := 1) (by omega) (fun lo' hi' cA' wi' b1 b2 b3 b4 b5 => K _ _ _ _ _ _ _ _ _ a1 a2 b5)
end
