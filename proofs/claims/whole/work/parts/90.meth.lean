-- the calls that change something
section
variable {fw fm fp fq fn fo fd : Int32} {sT cS fT su ta : Nat → Int32} {lo hi : Nat → Int64} {cA : Nat → Int32} {wi : Nat → Int64} {dr co cL bL bA bB : Nat → Int32}
variable {gw gm gp gq gs gr gn gc gf : Int32} {bi le sc ct : Nat → Int32}
variable {pr : Nat × Nat × Nat × Nat} {M : Nat → Nat → Nat} {L : Nat → Nat} {rs rp : Nat}
  {Z : (Nat → Int32) → (Nat → Int32) → Prop}

-- a picture speaks of the slots 0, 1, 2 alone
theorem mr_X_sl {m : Nat → Nat} {p : Nat} {M' : Nat → Nat → Nat} {L' : Nat → Nat} {u : SX} (h : mr_X pr m p M L rs rp Z u)
    (hG : ¬ rs < 3 → rp = 0) (eM : ∀ q, q < 3 → M' q = M q) (eL : ∀ q, q < 3 → L' q = L q) :
    mr_X pr m p M' L' rs rp Z u := by
  obtain ⟨fw, fm, fp, fq, fn, fo, fd, sT, cS, fT, su, ta, lo, hi, cA, wi, dr, co, cL, bL, bA, bB⟩ := u
  obtain ⟨h1, h2, h3, ⟨h4, h5⟩, h6, h7⟩ := h
  refine ⟨h1, h2, h3, ⟨?_, fun c => ?_⟩, fun q hq => ?_, h7⟩
  · by_cases c : rs < 3
    · rw [eM rs c]
      exact h4
    · have z := hG c
      subst z
      exact h4
  · rw [eM rs c, eL rs c]
    exact h5 c
  · rw [eM q hq, eL q hq]
    exact h6 q hq

def mr_s {α : Type} (f : Nat → α) (q : Nat) (x : α) : Nat → α := fun r => if r = q then x else f r
theorem mr_ss {α : Type} {f : Nat → α} {q : Nat} {x : α} : mr_s f q x q = x := if_pos rfl
theorem mr_sn {α : Type} {f : Nat → α} {q r : Nat} {x : α} (h : r ≠ q) : mr_s f q x r = f r := if_neg h

theorem mr_G_w {m : Nat → Nat} {n : Nat} (hG : mr_G M L rs rp) (hm : ∀ j, m j < 2) (hn : n ≤ 80) :
    mr_G (mr_s M 3 m) (mr_s L 3 n) rs rp := by
  obtain ⟨g1, g2, g3, g4⟩ := hG
  refine ⟨fun r j => ?_, fun r => ?_, fun c => ?_, g4⟩
  · by_cases e : r = 3
    · subst e
      rw [mr_ss]
      exact hm j
    · rw [mr_sn e]
      exact g1 r j
  · by_cases e : r = 3
    · subst e
      rw [mr_ss]
      exact hn
    · rw [mr_sn e]
      exact g2 r
  · rw [mr_sn (by omega)]
    exact g3 c

-- the writer's message becomes m of n bits: both sides
theorem cj_w {k n : Nat} {m : Nat → Nat} {u : SX} {v : SY} (hB : mr_B pr) (hG : mr_G M L rs rp) (hm : ∀ j, m j < 2) (hn : n ≤ 80)
    (hX : mr_X pr m n M L rs rp Z u) (hZ : ∀ a b, Z a b → mr_T a b) (hY : mr_Y pr (mr_s M 3 m) (mr_s L 3 n) rs rp v) : i_Rel k u v := by
  refine ⟨pr, mr_s M 3 m, mr_s L 3 n, rs, rp, hB, mr_G_w hG hm hn, ?_, hY⟩
  have h := mr_X_sl (M' := mr_s M 3 m) (L' := mr_s L 3 n) hX hG.2.2.2 (fun q hq => mr_sn (by omega)) (fun q hq => mr_sn (by omega))
  rw [mr_ss, mr_ss]
  obtain ⟨fw, fm, fp, fq, fn, fo, fd, sT, cS, fT, su, ta, lo, hi, cA, wi, dr, co, cL, bL, bA, bB⟩ := u
  obtain ⟨h1, h2, h3, h4, h5, h6⟩ := h
  exact ⟨h1, h2, h3, h4, h5, trivial⟩

theorem mr_Z {m : Nat → Nat} {p : Nat} {Z' : (Nat → Int32) → (Nat → Int32) → Prop} {u : SX} (h : mr_X pr m p M L rs rp Z u)
    (hZ : ∀ a b, Z a b → Z' a b) : mr_X pr m p M L rs rp Z' u := by
  obtain ⟨fw, fm, fp, fq, fn, fo, fd, sT, cS, fT, su, ta, lo, hi, cA, wi, dr, co, cL, bL, bA, bB⟩ := u
  obtain ⟨h1, h2, h3, h4, h5, h6⟩ := h
  exact ⟨h1, h2, h3, h4, h5, hZ _ _ h6⟩

-- discard
theorem xm_rw {post : SX → Prop} {m m' : Nat → Nat} {p : Nat} {u : SX} (hB : mr_B pr) (hM : ∀ r j, M r j < 2)
    (h : mr_X pr m p M L rs rp Z u) (K : ∀ u', mr_X pr m' 0 M L rs rp Z u' → post u') : wpX_renewWriter post u := by
  obtain ⟨fw, fm, fp, fq, fn, fo, fd, sT, cS, fT, su, ta, lo, hi, cA, wi, dr, co, cL, bL, bA, bB⟩ := u
  obtain ⟨⟨rfl, rfl, rfl, rfl⟩, ⟨rfl, rfl, rfl⟩, ⟨hA, hE⟩, ⟨hR, hD⟩, hS, hZ⟩ := h
  have n1 := (mp_I hB (hM rs) rp).2.1
  have h32 := hB.2.2.2.1
  exact xq_rw hB.2.1 (fun sT' cS' fT' su' ta' lo' hi' cA' wi' q1 q2 q3 q4 => K _ ⟨⟨rfl, rfl, rfl, rfl⟩, ⟨rfl, rfl, rfl⟩, ⟨q1, q3⟩,
    ⟨xp_keep hR (by omega) q2 (by decide), fun c => xd_keep (hD c) q4 (by decide)⟩, hS, hZ⟩)

theorem i_vc_discard {k : Nat} {u : SX} {v : SY} (I : i_Rel k u v) (hk : k + 4 ≤ 2052) : wpX_discard (fun u' => wpY_discard (fun v' => i_Rel (k + 4) u' v') v) u := by
  obtain ⟨pr, M, L, rs, rp, hB, hG, hX, hY⟩ := I
  obtain ⟨fw, fm, fp, fq, fn, fo, fd, sT, cS, fT, su, ta, lo, hi, cA, wi, dr, co, cL, bL, bA, bB⟩ := u
  unfold wpX_discard
  refine xm_rw (m' := M 3) hB hG.1 hX (fun u' h => ?_)
  obtain ⟨fw1, fm1, fp1, fq1, fn1, fo1, fd1, sT1, cS1, fT1, su1, ta1, lo1, hi1, cA1, wi1, dr1, co1, cL1, bL1, bA1, bB1⟩ := u'
  obtain ⟨gw, gm, gp, gq, gs, gr, gn, gc, gf, bi, le, sc, ct⟩ := v
  obtain ⟨y1, y2, y3⟩ := hY
  refine nm_e (cj_w hB hG (hG.1 3) (n := 0) (by omega) h (fun _ _ z => z) ⟨y1, y2, fun r hr => ?_⟩)
  by_cases e : r = 3
  · subst e
    rw [mr_ss]
    exact ⟨pk_us, fun j hj => absurd hj (Nat.not_lt_zero j)⟩
  · rw [mr_sn e, mr_sn e, pk_un e]
    exact y3 r hr

-- put
def xi_m (c : Nat) : Int32 := match c with
  | 0 => -1
  | c + 1 => nI c
theorem xi_s (c : Nat) : nI c + (-1) = xi_m c := by
  cases c with
  | zero => decide
  | succ c => exact pk_m1 c
theorem xi_p {n : Nat} (h : 1 ≤ n) : nI n - 1 = xi_m n := by
  obtain ⟨c, rfl⟩ : ∃ c, n = c + 1 := ⟨n - 1, by omega⟩
  exact nI_pred c

def xb_v (v : Int32) (i : Nat) : Nat := v.toBitVec.toNat / 2 ^ i % 2
theorem xb_lt (v : Int32) (i : Nat) : xb_v v i < 2 := Nat.mod_lt _ (by omega)
theorem xb_x (v : Int32) {i : Nat} (hi : i < 32) :
    (v.toUInt32 >>> ((nI i).toUInt32 &&& Int32.toUInt32 31)).toInt32 &&& 1 = nI (xb_v v i) := by
  rw [pk_and _ 1 (by decide), pk_ushr v (nI i) i (s_u i hi)]
  rfl
theorem xb_y (v : Int32) {i : Nat} (hi : i < 32) : (v >>> (nI i &&& 31)) &&& 1 = nI (xb_v v i) := by
  rw [pk_and _ 1 (by decide)]
  have h := b_sshr i hi v (i := 0) (by omega)
  rw [if_pos (by omega)] at h
  unfold bt at h
  rw [← BitVec.testBit_toNat, ← BitVec.testBit_toNat, Nat.testBit_eq_decide_div_mod_eq, Nat.testBit_eq_decide_div_mod_eq] at h
  have h' := decide_eq_decide.mp h
  unfold xb_v
  refine congrArg nI ?_
  rw [Nat.add_zero] at h'
  generalize v.toBitVec.toNat / 2 ^ i = x at *
  generalize (v >>> (nI i &&& 31)).toBitVec.toNat = y at *
  rw [Nat.pow_zero, Nat.div_one] at h'
  show y % 2 = x % 2
  omega

theorem xm_put27 {post : Int32 → SX → Prop} {v : Int32} {m : Nat → Nat} (hB : mr_B pr) (hm : ∀ j, m j < 2) (hM : ∀ r j, M r j < 2) (c : Nat) :
    ∀ (n p : Nat) (u : SX), c < n → p + c ≤ 80 → c ≤ 16 → mr_X pr m p M L rs rp Z u → (∀ j, j < c → m (p + j) = xb_v v (c - 1 - j)) →
      (∀ u', mr_X pr m (p + c) M L rs rp Z u' → post 0 u') → match u with | (fw, fm, fp, fq, fn, fo, fd, sT, cS, fT, su, ta, lo, hi, cA, wi, dr, co, cL, bL, bA, bB) => wX_put_27 post v n (xi_m c) fw fm fp fq fn fo fd sT cS fT su ta lo hi cA wi dr co cL bL bA bB := by
  induction c with
  | zero =>
    intro n p u h1 h2 h3 h hb K
    obtain ⟨fw, fm, fp, fq, fn, fo, fd, sT, cS, fT, su, ta, lo, hi, cA, wi, dr, co, cL, bL, bA, bB⟩ := u
    obtain ⟨n, rfl⟩ : ∃ a, n = a + 1 := ⟨n - 1, by omega⟩
    show wX_put_27 post v (n + 1) (-1) fw fm fp fq fn fo fd sT cS fT su ta lo hi cA wi dr co cL bL bA bB
    rw [wX_put_27]
    exact br_t (by decide) (K _ h)
  | succ c ih =>
    intro n p u h1 h2 h3 h hb K
    obtain ⟨fw, fm, fp, fq, fn, fo, fd, sT, cS, fT, su, ta, lo, hi, cA, wi, dr, co, cL, bL, bA, bB⟩ := u
    obtain ⟨n, rfl⟩ : ∃ a, n = a + 1 := ⟨n - 1, by omega⟩
    show wX_put_27 post v (n + 1) (nI c) fw fm fp fq fn fo fd sT cS fT su ta lo hi cA wi dr co cL bL bA bB
    rw [wX_put_27]
    have e0 : m p = xb_v v c := by
      have := hb 0 (by omega)
      rw [Nat.add_zero, show c + 1 - 1 - 0 = c by omega] at this
      exact this
    refine br_f (nI_pos (by omega)) (xm_wb hB hm hM (by omega) h (by rw [xb_x v (by omega), e0]) (fun u' h' => ?_))
    have := ih n (p + 1) u' (by omega) (by omega) (by omega) h' (fun j hj => ?_) (fun u2 h2 => K u2 (by rw [show p + (c + 1) = p + 1 + c by omega]; exact h2))
    · obtain ⟨fw1, fm1, fp1, fq1, fn1, fo1, fd1, sT1, cS1, fT1, su1, ta1, lo1, hi1, cA1, wi1, dr1, co1, cL1, bL1, bA1, bB1⟩ := u'
      exact nm_r (xi_s c) this
    · have := hb (j + 1) (by omega)
      rw [show p + 1 + j = p + (j + 1) by omega, this]
      exact congrArg (xb_v v) (by omega)

theorem yq_put33 {post : Int32 → SY → Prop} {v : Int32} (c : Nat) : ∀ (n p : Nat) (bi le : Nat → Int32), c < n → p + c ≤ 80 → c ≤ 16 → le 3 = nI p →
    (∀ bi' le' : Nat → Int32, le' 3 = nI (p + c) → (∀ r, r ≠ 3 → le' r = le r) → (∀ j, j < c → bi' (240 + (p + j)) = nI (xb_v v (c - 1 - j))) →
      (∀ i, i < 240 + p → bi' i = bi i) → post 0 (gw, gm, gp, gq, gs, gr, gn, gc, gf, bi', le', sc, ct)) →
    wY_put_33 post v gw gm gp gq gs gr gn gc gf n (xi_m c) bi le sc ct := by
  induction c with
  | zero =>
    intro n p bi le h1 h2 h3 hl K
    obtain ⟨n, rfl⟩ : ∃ a, n = a + 1 := ⟨n - 1, by omega⟩
    show wY_put_33 post v gw gm gp gq gs gr gn gc gf (n + 1) (-1) bi le sc ct
    rw [wY_put_33]
    exact br_t (by decide) (K bi le hl (fun _ _ => rfl) (fun j hj => by omega) (fun _ _ => rfl))
  | succ c ih =>
    intro n p bi le h1 h2 h3 hl K
    obtain ⟨n, rfl⟩ : ∃ a, n = a + 1 := ⟨n - 1, by omega⟩
    show wY_put_33 post v gw gm gp gq gs gr gn gc gf (n + 1) (nI c) bi le sc ct
    rw [wY_put_33]
    have ei : 240 + le 3 = nI (240 + p) := by
      rw [hl]
      exact nI_add 240 p
    refine br_f (nI_pos (by omega)) ⟨by rw [ei]; exact vp_in_nI (by omega) (by omega), nm_r (e' := upd bi (240 + p) (nI (xb_v v c))) ?_
      (nm_r (e' := upd le 3 (nI (p + 1))) (by rw [hl, nI_1]) (nm_r (xi_s c) (ih n (p + 1) _ _ (by omega) (by omega) (by omega) pk_us
        (fun bi' le' k1 k2 k3 k4 => K bi' le' ?_ (fun r hr => (k2 r hr).trans (pk_un hr)) (fun j hj => ?_) (fun i hi => ?_)))))⟩
    · rw [ei, nI_clamp (by omega), xb_y v (by omega)]
    · rw [k1]
      exact congrArg nI (by omega)
    · by_cases j0 : j = 0
      · subst j0
        rw [k4 _ (by omega), Nat.add_zero, pk_us]
        exact congrArg (fun x => nI (xb_v v x)) (by omega)
      · have := k3 (j - 1) (by omega)
        rw [show p + 1 + (j - 1) = p + j by omega] at this
        rw [this]
        exact congrArg (fun x => nI (xb_v v x)) (by omega)
    · rw [k4 i (by omega), pk_un (by omega)]

theorem ca_pc (x : Int32) : ((∀ post : Int32 → Prop, post 0 → wpX_isPiece post x) ∧ (x < 1 ∨ (¬ x < 1 ∧ ¬ x ≤ 16))) ∨
    ∃ n : Nat, 1 ≤ n ∧ n ≤ 16 ∧ x = nI n ∧ (∀ post : Int32 → Prop, post 1 → wpX_isPiece post x) := by
  by_cases h : x < 1
  · exact Or.inl ⟨fun post hp => br_t h hp, Or.inl h⟩
  · have h1 : (1 : Int32) ≤ x := Int32.not_lt.mp h
    have h0 : ¬ x < 0 := Int32.not_lt.mpr (Int32.le_trans (by decide) h1)
    by_cases g : x ≤ 16
    · obtain ⟨n, hn, rfl⟩ := nI_of h0
      have a := (nI_leI (a := 1) (by omega) hn).mp h1
      have b := (nI_leI (b := 16) hn (by omega)).mp g
      exact Or.inr ⟨n, a, b, rfl, fun post hp => br_f h (br_f (Int32.not_lt.mpr g) hp)⟩
    · exact Or.inl ⟨fun post hp => br_f h (br_t (Int32.not_le.mp g) hp), Or.inr ⟨h, g⟩⟩

def mp_cat (m : Nat → Nat) (p : Nat) (m2 : Nat → Nat) : Nat → Nat := fun j => if j < p then m j else m2 (j - p)

theorem i_vc_put {k : Nat} {u : SX} {v : SY} (I : i_Rel k u v) (hk : k + 4 ≤ 2052) (v1 : Int32) (v2 : Int32) : wpX_put (fun r u' => wpY_put (fun r' v' => r' = r ∧ i_Rel (k + 4) u' v') v v1 v2) u v1 v2 := by
  have I0 : i_Rel (k + 4) u v := I
  obtain ⟨pr, M, L, rs, rp, hB, hG, hX, hY⟩ := I
  have hX0 := hX
  obtain ⟨fw, fm, fp, fq, fn, fo, fd, sT, cS, fT, su, ta, lo, hi, cA, wi, dr, co, cL, bL, bA, bB⟩ := u
  obtain ⟨gw, gm, gp, gq, gs, gr, gn, gc, gf, bi, le, sc, ct⟩ := v
  obtain ⟨x1, ⟨x2, _⟩, _⟩ := hX0
  obtain ⟨y1, y2, y3⟩ := hY
  obtain ⟨l1, l2⟩ := y3 3 (by omega)
  have hL := hG.2.1 3
  unfold wpX_put wpY_put
  rcases ca_pc v2 with ⟨a, b⟩ | ⟨n, n1, n2, rfl, a⟩
  · refine a _ (br_t rfl ?_)
    rcases b with b | ⟨b, c⟩
    · exact br_t b ⟨rfl, I0⟩
    · exact br_f b (br_f c ⟨rfl, I0⟩)
  · have c1 : ¬ nI n < 1 := nI_nlt (b := 1) n1 (by omega)
    have c2 : nI n ≤ 16 := nI_le (b := 16) n2 (by omega)
    refine a _ (br_f (by decide) ?_)
    have ex : fn + nI n = nI (L 3 + n) := by rw [x2, nI_add]
    have ey : le 3 + nI n = nI (L 3 + n) := by rw [l1, nI_add]
    by_cases f : L 3 + n ≤ 80
    · refine br_t (by rw [ex]; exact nI_le (b := 80) f (by omega)) (nm_r (xi_p n1) ⟨n + 1, ?_⟩)
      have hm : ∀ j, mp_cat (M 3) (L 3) (fun i => xb_v v1 (n - 1 - i)) j < 2 := by
        intro j
        unfold mp_cat
        split
        · exact hG.1 3 j
        · exact xb_lt _ _
      refine xm_put27 (m := mp_cat (M 3) (L 3) (fun i => xb_v v1 (n - 1 - i))) hB hm hG.1 n (n + 1) (L 3) (fw, fm, fp, fq, fn, fo, fd, sT, cS, fT, su, ta, lo, hi, cA, wi, dr, co, cL, bL, bA, bB) (by omega) f n2
        (mr_X_cg hX (fun j hj => (if_pos hj).symm)) (fun j hj => ?_) (fun u' h' => ?_)
      · unfold mp_cat
        rw [if_neg (by omega), show L 3 + j - L 3 = j by omega]
      · refine br_f c1 (br_t c2 (br_t (by rw [ey]; exact nI_le (b := 80) f (by omega)) (nm_r (xi_p n1) ⟨n + 1, ?_⟩)))
        refine yq_put33 n (n + 1) (L 3) bi le (by omega) f n2 l1 (fun bi' le' k1 k2 k3 k4 => ⟨rfl, ?_⟩)
        refine cj_w hB hG hm f h' (fun _ _ z => z) ⟨y1, y2, fun r hr => ?_⟩
        by_cases e : r = 3
        · subst e
          rw [mr_ss, mr_ss]
          refine ⟨k1, fun j hj => ?_⟩
          unfold mp_cat
          by_cases q : j < L 3
          · rw [if_pos q, k4 _ (by omega)]
            exact l2 j q
          · rw [if_neg q]
            have := k3 (j - L 3) (by omega)
            rw [show 240 + (L 3 + (j - L 3)) = 80 * 3 + j by omega] at this
            exact this
        · rw [mr_sn e, mr_sn e, k2 r e]
          obtain ⟨z1, z2⟩ := y3 r hr
          have := hG.2.1 r
          exact ⟨z1, fun j hj => (k4 _ (by omega)).trans (z2 j hj)⟩
    · exact br_f (by rw [ex]; exact nI_ge (a := 80) (by omega) (by omega))
        (br_f c1 (br_t c2 (br_f (by rw [ey]; exact nI_ge (a := 80) (by omega) (by omega)) ⟨rfl, I0⟩)))
end
