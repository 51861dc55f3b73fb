-- seal, the reader, recode, drop, compare
section
variable {fw fm fp fq fn fo fd : Int32} {sT cS fT su ta : Nat → Int32} {lo hi : Nat → Int64} {cA : Nat → Int32} {wi : Nat → Int64} {dr co cL bL bA bB : Nat → Int32}
variable {gw gm gp gq gs gr gn gc gf : Int32} {bi le sc ct : Nat → Int32}
variable {pr : Nat × Nat × Nat × Nat} {M : Nat → Nat → Nat} {L : Nat → Nat} {rs rp : Nat}
  {Z : (Nat → Int32) → (Nat → Int32) → Prop}

-- seal
theorem yq_seal36 {post : Int32 → SY → Prop} {q : Nat} (hq : q < 3)
    (K : ∀ bi' : Nat → Int32, (∀ j, j < 80 → bi' (80 * q + j) = bi (240 + j)) → (∀ i, (i < 80 * q ∨ 80 * q + 80 ≤ i) → bi' i = bi i) →
      post 0 (gw, gm, gp, gq, gs, gr, gn, gc, gf, bi', upd (upd le q (le 3)) 3 0, sc, ct)) (n : Nat) :
    ∀ (i : Nat) (bi1 : Nat → Int32), i ≤ 80 → 80 < n + i → (∀ j, j < i → bi1 (80 * q + j) = bi (240 + j)) →
      (∀ x, (x < 80 * q ∨ 80 * q + 80 ≤ x) → bi1 x = bi x) → wY_seal_36 post (nI q) gw gm gp gq gs gr gn gc gf n (nI i) bi1 le sc ct := by
  have eq : (nI q).toNatClampNeg = q := xq_cl (by omega)
  induction n with
  | zero => intro i bi1 h1 h2; omega
  | succ n ih =>
    intro i bi1 h1 h2 h3 h4
    rw [wY_seal_36]
    by_cases e : i = 80
    · subst e
      exact br_t (nI_le (a := 80) (by omega) (by omega)) ⟨vp_in_nI (by omega) (by omega), nm_r (e' := upd le q (le 3)) (by rw [eq]) (nm_e (K bi1 h3 h4))⟩
    · have e1 : 240 + nI i = nI (240 + i) := nI_add 240 i
      have e2 : nI q * 80 + nI i = nI (80 * q + i) := by
        have a : nI q * 80 = nI (q * 80) := pk_mul q 80
        rw [a, nI_add, Nat.mul_comm q 80]
      refine br_f (nI_ge (b := 80) (by omega) (by omega)) ⟨by rw [e1]; exact vp_in_nI (by omega) (by omega), by rw [e2]; exact vp_in_nI (by omega) (by omega),
        nm_r (e' := upd bi1 (80 * q + i) (bi (240 + i))) ?_ (nm_r (nI_1 i) (ih (i + 1) _ (by omega) (by omega) (fun j hj => ?_) (fun x hx => ?_)))⟩
      · rw [e1, e2, xq_cl (by omega), xq_cl (by omega), h4 (240 + i) (by omega)]
      · by_cases ji : j = i
        · rw [ji, pk_us]
        · rw [pk_un (by omega)]
          exact h3 j (by omega)
      · rw [pk_un (by omega)]
        exact h4 x hx

theorem xr_keep {q t N : Nat} {B : Nat → Nat} {co' cL' : Nat → Int32} (h : xr_C q N B co cL) (hqt : q ≠ t)
    (h1 : ∀ j, (j < 81 * t ∨ 81 * t + 81 ≤ j) → co' j = co j) (h2 : ∀ j, j ≠ t → cL' j = cL j) : xr_C q N B co' cL' := by
  obtain ⟨a, b, c, d, e⟩ := h
  exact ⟨(h2 q hqt).trans a, b, fun j hj => (h1 _ (by omega)).trans (c j hj), d, e⟩

theorem i_vc_seal {k : Nat} {u : SX} {v : SY} (I : i_Rel k u v) (hk : k + 4 ≤ 2052) (v1 : Int32) : wpX_seal (fun r u' => wpY_seal (fun r' v' => r' = r ∧ i_Rel (k + 4) u' v') v v1) u v1 := by
  have I0 : i_Rel (k + 4) u v := I
  obtain ⟨pr, M, L, rs, rp, hB, hG, hX, hY⟩ := I
  obtain ⟨fw, fm, fp, fq, fn, fo, fd, sT, cS, fT, su, ta, lo, hi, cA, wi, dr, co, cL, bL, bA, bB⟩ := u
  obtain ⟨gw, gm, gp, gq, gs, gr, gn, gc, gf, bi, le, sc, ct⟩ := v
  obtain ⟨⟨x1, x2, x3, x4⟩, ⟨x5, x6, x7⟩, ⟨hA, hE⟩, ⟨hR, hD⟩, hS, hZ⟩ := hX
  obtain ⟨y1, y2, y3⟩ := hY
  obtain ⟨l1, l2⟩ := y3 3 (by omega)
  have hL := hG.2.1 3
  unfold wpX_seal wpY_seal
  rcases ca_sl v1 with ⟨a, b⟩ | ⟨q, hq, rfl, a, b⟩
  · exact a _ (br_t rfl (b _ _ (br_f (by decide) ⟨rfl, I0⟩)))
  · have eq : (nI q).toNatClampNeg = q := xq_cl (by omega)
    have wq : vp_in (nI q) 3 := xq_i3 hq
    have wq4 : vp_in (nI q) 4 := vp_in_nI (by omega) (by omega)
    obtain ⟨s1, s2⟩ := hS q hq
    obtain ⟨z1, z2⟩ := y3 q (by omega)
    have hLq := hG.2.1 q
    refine a _ (br_f (by decide) ⟨wq, ?_⟩)
    by_cases c0 : L q = 0
    · refine br_t (by rw [eq, s1]; exact nI_le (b := 0) (by omega) (by omega)) ?_
      have cy : le (nI q).toNatClampNeg ≤ 0 := by
        rw [eq, z1]
        exact nI_le (b := 0) (by omega) (by omega)
      by_cases c3 : L 3 = 0
      · exact br_t (by rw [x5, c3]; rfl) (b _ _ (br_t rfl ⟨wq4, br_t cy (br_t (by rw [l1, c3]; rfl) ⟨rfl, I0⟩)⟩))
      · refine br_f (by rw [x5]; exact nI_ne0 (by omega) (by omega)) ?_
        have hV := mp_V hB (hG.1 3) (L 3)
        obtain ⟨f1, f2, f3, f4, f5, f6⟩ := mc_fin hV
        refine xq_fin hV hL hE (fun cA' dr' c1 c2 c3' => ?_)
        refine ⟨mc_fk (mp_e pr (M 3) (L 3)) + 1, xq_sd2 hq (by omega) c1 c2 (fun co' cL' bL' d1 d2 d3 d4 d5 d6 => ?_) _ 0 co (by omega) (by omega)
          (fun j hj => by omega) (fun _ _ => rfl)⟩
        subst x1
        have h32 := hB.2.2.2.1
        have n1 := (mp_I hB (hG.1 rs) rp).2.1
        refine xq_rw hB.2.1 (fun sT' cS' fT' su' ta' lo' hi' cA2 wi' q1 q2 q3 q4 => ?_)
        refine b _ _ (br_t rfl ⟨wq4, br_t cy (br_f (by rw [l1]; exact nI_ne0 (by omega) (by omega)) ⟨81, yq_seal36 hq (fun bi' k1 k2 => ⟨rfl, ?_⟩) 81 0 bi (by omega) (by omega)
          (fun j hj => by omega) (fun _ _ => rfl)⟩)⟩)
        have hrq : rs < 3 → rs ≠ q := fun c e => by
          have := (hG.2.2.1 c).1
          rw [e] at this
          omega
        have hrq' : rs ≠ q := fun e => hrq (by omega) e
        refine ⟨pr, mr_s M q (M 3), mr_s (mr_s L q (L 3)) 3 0, rs, rp, hB, ⟨fun r j => ?_, fun r => ?_, fun c => ?_, hG.2.2.2⟩,
          ⟨⟨rfl, x2, x3, x4⟩, ⟨?_, x6, x7⟩, ⟨?_, ?_⟩, ⟨?_, fun c => ?_⟩, fun t ht => ?_, hZ⟩, ⟨y1, y2, fun r hr => ?_⟩⟩
        · unfold mr_s
          split
          · exact hG.1 3 j
          · exact hG.1 r j
        · unfold mr_s
          split
          · omega
          · split
            · exact hL
            · exact hG.2.1 r
        · rw [mr_sn (by omega), mr_sn (hrq c)]
          exact hG.2.2.1 c
        · rw [mr_ss]
          rfl
        · rw [mr_ss]
          exact q1
        · rw [mr_ss]
          exact q3
        · rw [mr_sn hrq']
          exact xp_keep hR (by omega) q2 (by decide)
        · rw [mr_sn hrq', mr_sn (by omega), mr_sn hrq']
          refine xd_keep ?_ q4 (by decide)
          obtain ⟨e1, e2, e3, e4⟩ := hD c
          exact ⟨e1, e2, (c3' 1 (by decide)).trans e3, e4⟩
        · by_cases e : t = q
          · subst e
            rw [mr_sn (show t ≠ 3 by omega), mr_ss, mr_ss]
            exact ⟨d5.trans x5, fun _ => ⟨d3, by omega, d1, f1, f2⟩⟩
          · rw [mr_sn (show t ≠ 3 by omega), mr_sn e, mr_sn e, d6 t e]
            obtain ⟨w1, w2⟩ := hS t ht
            exact ⟨w1, fun g => xr_keep (w2 g) e d2 d4⟩
        · by_cases e3 : r = 3
          · subst e3
            rw [mr_ss]
            exact ⟨pk_us, fun j hj => absurd hj (Nat.not_lt_zero j)⟩
          · rw [mr_sn e3, pk_un e3]
            by_cases e : r = q
            · subst e
              rw [mr_ss, mr_ss, pk_us]
              exact ⟨l1, fun j hj => (k1 j (by omega)).trans (l2 j hj)⟩
            · rw [mr_sn e, mr_sn e, pk_un e]
              obtain ⟨w1, w2⟩ := y3 r hr
              have := hG.2.1 r
              exact ⟨w1, fun j hj => (k2 _ (by omega)).trans (w2 j hj)⟩
    · refine br_f (by rw [eq, s1]; exact nI_nle (by omega) (by omega)) (b _ _ (br_t rfl ⟨wq4, br_f ?_ ⟨rfl, I0⟩⟩))
      rw [eq, z1]
      exact nI_nle (by omega) (by omega)

-- a slot read from its start
theorem i_vc_open {k : Nat} {u : SX} {v : SY} (I : i_Rel k u v) (hk : k + 4 ≤ 2052) (v1 : Int32) : wpX_open (fun r u' => wpY_open (fun r' v' => r' = r ∧ i_Rel (k + 4) u' v') v v1) u v1 := by
  have I0 : i_Rel (k + 4) u v := I
  obtain ⟨pr, M, L, rs, rp, hB, hG, hX, hY⟩ := I
  obtain ⟨fw, fm, fp, fq, fn, fo, fd, sT, cS, fT, su, ta, lo, hi, cA, wi, dr, co, cL, bL, bA, bB⟩ := u
  obtain ⟨gw, gm, gp, gq, gs, gr, gn, gc, gf, bi, le, sc, ct⟩ := v
  obtain ⟨⟨x1, x2, x3, x4⟩, ⟨x5, x6, x7⟩, ⟨hA, hE⟩, ⟨hR, hD⟩, hS, hZ⟩ := hX
  obtain ⟨y1, y2, y3⟩ := hY
  unfold wpX_open wpY_open
  rcases ca_sl v1 with ⟨a, b⟩ | ⟨q, hq, rfl, a, b⟩
  · exact a _ (br_t rfl (b _ _ (br_f (by decide) ⟨rfl, I0⟩)))
  · have eq : (nI q).toNatClampNeg = q := xq_cl (by omega)
    have wq : vp_in (nI q) 3 := xq_i3 hq
    have wq4 : vp_in (nI q) 4 := vp_in_nI (by omega) (by omega)
    obtain ⟨s1, s2⟩ := hS q hq
    obtain ⟨z1, z2⟩ := y3 q (by omega)
    have hLq := hG.2.1 q
    refine a _ (br_f (by decide) ⟨wq, ?_⟩)
    by_cases c0 : L q = 0
    · exact br_t (by rw [eq, s1, c0]; rfl) (b _ _ (br_t rfl ⟨wq4, br_t (by rw [eq, z1, c0]; rfl) ⟨rfl, I0⟩⟩))
    · refine br_f (by rw [eq, s1]; exact nI_ne0 (by omega) (by omega)) ?_
      subst x1
      have h32 := hB.2.2.2.1
      have n0 := (mp_I hB (hG.1 3) (L 3)).2.1
      refine xq_start (s := 1) (by omega) hq hB.2.1 (s2 (by omega)) (fun sT' cS' fT' su' ta' lo' hi' cA' wi' q1 q2 q3 q4 => ?_)
      refine b _ _ (br_t rfl ⟨wq4, br_f (by rw [eq, z1]; exact nI_ne0 (by omega) (by omega)) ⟨rfl, ?_⟩⟩)
      refine ⟨pr, M, L, q, 0, hB, ⟨hG.1, hG.2.1, fun _ => ⟨by omega, by omega⟩, fun _ => rfl⟩,
        ⟨⟨rfl, x2, x3, x4⟩, ⟨x5, (if_pos hq).symm, rfl⟩, ⟨xp_keep hA (by omega) q2 (by decide), xe_keep hE q4 (by decide)⟩, ⟨q1, fun _ => q3⟩, hS, hZ⟩,
        ⟨y1, ⟨(if_pos hq).symm, rfl⟩, y3⟩⟩

-- take
def xt_a (m : Nat → Nat) : Nat → Nat → Int32 → Int32
  | _, 0, a => a
  | r, c + 1, a => xt_a m (r + 1) c (a * 2 + nI (m r))

theorem xm_take46 {post : Int32 → SX → Prop} {m : Nat → Nat} {p n0 rp0 : Nat} (hB : mr_B pr) (hm : ∀ j, m j < 2) (hM : ∀ r j, M r j < 2)
    (hr : rs < 3) (hL : L rs ≤ 80) (h1' : 1 ≤ L rs) (hn0 : n0 ≤ 16) (c : Nat) :
    ∀ (n i rp : Nat) (a fw fm fp fq fn fo : Int32) (sT cS fT su ta : Nat → Int32) (lo hi : Nat → Int64) (cA : Nat → Int32) (wi : Nat → Int64)
      (dr co cL bL bA bB : Nat → Int32), c < n → i + c = n0 → rp = rp0 + i → rp + c ≤ L rs → mr_X pr m p M L rs rp Z (fw, fm, fp, fq, fn, fo, nI rp, sT, cS, fT, su, ta, lo, hi, cA, wi, dr, co, cL, bL, bA, bB) →
      (∀ u', mr_X pr m p M L rs (rp0 + n0) Z u' → post (xt_a (M rs) rp c a) u') → wX_take_46 post (nI n0) n a (nI i) fw fm fp fq fn fo (nI rp0) sT cS fT su ta lo hi cA wi dr co cL bL bA bB := by
  induction c with
  | zero =>
    intro n i rp a fw fm fp fq fn fo sT cS fT su ta lo hi cA wi dr co cL bL bA bB g1 g2 g3 g4 h K
    obtain ⟨n, rfl⟩ : ∃ x, n = x + 1 := ⟨n - 1, by omega⟩
    rw [wX_take_46]
    have e : i = n0 := g2
    subst e
    subst g3
    exact br_t (nI_le (Nat.le_refl _) (by omega)) (nm_r (nI_add rp0 i) (K _ h))
  | succ c ih =>
    intro n i rp a fw fm fp fq fn fo sT cS fT su ta lo hi cA wi dr co cL bL bA bB g1 g2 g3 g4 h K
    obtain ⟨n, rfl⟩ : ∃ x, n = x + 1 := ⟨n - 1, by omega⟩
    obtain ⟨⟨rfl, rfl, rfl, rfl⟩, ⟨x5, x6, x7⟩, ⟨hA, hE⟩, ⟨hR, hD⟩, hS, hZ⟩ := h
    have x6' : fo = nI rs := x6.trans (if_pos hr)
    subst x6'
    have h32 := hB.2.2.2.1
    have n0' := (mp_I hB hm p).2.1
    rw [wX_take_46]
    refine br_f (nI_ge (by omega) (by omega)) (xq_rs (s := 1) hB (hM rs) (by omega) hr (show rp < L rs by omega) hL hR (hD hr) ((hS rs hr).2 h1')
      (fun sT' cS' fT' su' ta' lo' hi' cA' wi' q1 q2 q3 q4 => nm_e (nm_r (nI_1 i) (ih n (i + 1) (rp + 1) _ _ _ _ _ _ _ _ _ _ _ _ _ _ _ _ _ _ _ _ _ _
        (by omega) (by omega) (by omega) (by omega) ⟨⟨rfl, rfl, rfl, rfl⟩, ⟨x5, x6, rfl⟩, ⟨xp_keep hA (by omega) q2 (by decide), xe_keep hE q4 (by decide)⟩,
          ⟨q1, fun _ => q3⟩, hS, hZ⟩ K))))

theorem yq_take48 {post : Int32 → SY → Prop} {m : Nat → Nat} {q n0 rp0 : Nat} (hq : q < 3) (hn0 : n0 ≤ 16) (hr : rp0 + n0 ≤ 80)
    (hb : ∀ j, j < rp0 + n0 → bi (80 * q + j) = nI (m j)) (c : Nat) :
    ∀ (n i : Nat) (a : Int32), c < n → i + c = n0 → post (xt_a m (rp0 + i) c a) (gw, gm, gp, gq, nI q, nI (rp0 + n0), gn, gc, gf, bi, le, sc, ct) →
      wY_take_48 post (nI n0) gw gm gp gq (nI q) (nI rp0) gn gc gf bi le sc ct n a (nI i) := by
  induction c with
  | zero =>
    intro n i a g1 g2 K
    obtain ⟨n, rfl⟩ : ∃ x, n = x + 1 := ⟨n - 1, by omega⟩
    rw [wY_take_48]
    have e : i = n0 := g2
    subst e
    exact br_t (nI_le (Nat.le_refl _) (by omega)) (nm_r (nI_add rp0 i) K)
  | succ c ih =>
    intro n i a g1 g2 K
    obtain ⟨n, rfl⟩ : ∃ x, n = x + 1 := ⟨n - 1, by omega⟩
    rw [wY_take_48]
    have ei : nI q * 80 + nI rp0 + nI i = nI (80 * q + (rp0 + i)) := by
      have a : nI q * 80 = nI (q * 80) := pk_mul q 80
      rw [a, nI_add, nI_add, Nat.mul_comm q 80, Nat.add_assoc]
    refine br_f (nI_ge (by omega) (by omega)) ⟨by rw [ei]; exact vp_in_nI (by omega) (by omega), nm_r (e' := a * 2 + nI (m (rp0 + i))) ?_
      (nm_r (nI_1 i) (ih n (i + 1) _ (by omega) (by omega) K))⟩
    rw [ei, nI_clamp (by omega), hb (rp0 + i) (by omega)]

theorem i_vc_take {k : Nat} {u : SX} {v : SY} (I : i_Rel k u v) (hk : k + 4 ≤ 2052) (v1 : Int32) : wpX_take (fun r u' => wpY_take (fun r' v' => r' = r ∧ i_Rel (k + 4) u' v') v v1) u v1 := by
  have I0 : i_Rel (k + 4) u v := I
  obtain ⟨pr, M, L, rs, rp, hB, hG, hX, hY⟩ := I
  have hX0 := hX
  obtain ⟨fw, fm, fp, fq, fn, fo, fd, sT, cS, fT, su, ta, lo, hi, cA, wi, dr, co, cL, bL, bA, bB⟩ := u
  obtain ⟨gw, gm, gp, gq, gs, gr, gn, gc, gf, bi, le, sc, ct⟩ := v
  obtain ⟨x1, ⟨x5, x6, x7⟩, _, _, hS, _⟩ := hX0
  obtain ⟨y1, ⟨y4, y5⟩, y3⟩ := hY
  unfold wpX_take wpY_take
  rcases ca_pc v1 with ⟨a, b⟩ | ⟨n, n1, n2, rfl, a⟩
  · refine a _ (br_t rfl ?_)
    rcases b with b | ⟨b, c⟩
    · exact br_t b ⟨rfl, I0⟩
    · exact br_f b (br_f c ⟨rfl, I0⟩)
  · have c1 : ¬ nI n < 1 := nI_nlt (b := 1) n1 (by omega)
    have c2 : nI n ≤ 16 := nI_le (b := 16) n2 (by omega)
    refine a _ (br_f (by decide) ?_)
    by_cases hr : rs < 3
    · have e : mr_os rs = nI rs := if_pos hr
      rw [e] at x6 y4
      obtain ⟨g1, g2⟩ := hG.2.2.1 hr
      have hL := hG.2.1 rs
      have er : (nI rs).toNatClampNeg = rs := xq_cl (by omega)
      obtain ⟨s1, s2⟩ := hS rs hr
      obtain ⟨z1, z2⟩ := y3 rs (by omega)
      subst x6
      subst y4
      subst x7
      subst y5
      have wn : vp_in (nI rs) 4 := vp_in_nI (by omega) (by omega)
      refine br_f (fun z => absurd (nI_pos (n := rs) (by omega)) (by rw [z]; decide)) ⟨xq_i3 hr, ?_⟩
      have p0 : (0 : Int32) ≤ nI rs := nI_pos' (by omega)
      by_cases f : rp + n ≤ L rs
      · refine br_t (by rw [nI_add, er, s1]; exact nI_le f (by omega)) ⟨n + 1, ?_⟩
        refine xm_take46 hB (hG.1 3) hG.1 hr hL g1 n2 n (n + 1) 0 rp 0 _ _ _ _ _ _ _ _ _ _ _ _ _ _ _ _ _ _ _ _ _ (by omega) (by omega) rfl f hX (fun u' h' => ?_)
        refine br_f c1 (br_t c2 (br_t p0 ⟨wn, br_t (by rw [nI_add, er, z1]; exact nI_le f (by omega)) ⟨n + 1, ?_⟩⟩))
        refine yq_take48 (m := M rs) hr n2 (by omega) (fun j hj => z2 j (by omega)) n (n + 1) 0 0 (by omega) (by omega) ⟨rfl, ?_⟩
        exact ⟨pr, M, L, rs, rp + n, hB, ⟨hG.1, hG.2.1, fun _ => ⟨g1, f⟩, fun z => absurd hr z⟩, h', ⟨y1, ⟨e.symm, rfl⟩, y3⟩⟩
      · refine br_f (by rw [nI_add, er, s1]; exact nI_ge (by omega) (by omega)) (br_f c1 (br_t c2 (br_t p0 ⟨wn, br_f ?_ ⟨rfl, I0⟩⟩)))
        rw [nI_add, er, z1]
        exact nI_ge (by omega) (by omega)
    · have e : mr_os rs = -4 := if_neg hr
      rw [e] at x6 y4
      exact br_t x6 (br_f c1 (br_t c2 (br_f (by rw [y4]; decide) ⟨rfl, I0⟩)))

-- recode
theorem xm_rec51 {post : Int32 → SX → Prop} {m : Nat → Nat} {p q : Nat} (hB : mr_B pr) (hm : ∀ j, m j < 2) (hM : ∀ r j, M r j < 2)
    (hq : q < 3) (hp : p + L q ≤ 80) (c : Nat) : ∀ (n i : Nat) (u : SX), c < n → i + c = L q →
      mr_X pr m (p + i) M L rs rp (fun a _ => ∀ j, j < L q → a j = nI (m (p + j))) u →
      (∀ u', mr_X pr m (p + L q) M L rs rp (fun a _ => ∀ j, j < L q → a j = nI (m (p + j))) u' → post 0 u') →
      match u with | (fw, fm, fp, fq, fn, fo, fd, sT, cS, fT, su, ta, lo, hi, cA, wi, dr, co, cL, bL, bA, bB) => wX_recode_51 post (nI q) n (nI i) fw fm fp fq fn fo fd sT cS fT su ta lo hi cA wi dr co cL bL bA bB := by
  have eq : (nI q).toNatClampNeg = q := xq_cl (by omega)
  have wq : vp_in (nI q) 3 := xq_i3 hq
  induction c with
  | zero =>
    intro n i u g1 g2 h K
    obtain ⟨fw, fm, fp, fq, fn, fo, fd, sT, cS, fT, su, ta, lo, hi, cA, wi, dr, co, cL, bL, bA, bB⟩ := u
    obtain ⟨n, rfl⟩ : ∃ x, n = x + 1 := ⟨n - 1, by omega⟩
    have h0 := h
    obtain ⟨_, _, _, _, hS, _⟩ := h0
    have e : i = L q := g2
    show wX_recode_51 post (nI q) (n + 1) (nI i) fw fm fp fq fn fo fd sT cS fT su ta lo hi cA wi dr co cL bL bA bB
    rw [wX_recode_51]
    refine ⟨wq, br_t (by rw [eq, (hS q hq).1, e]; exact nI_le (Nat.le_refl _) (by omega)) (K _ ?_)⟩
    rw [← e]
    rw [e] at h
    rw [e]
    exact h
  | succ c ih =>
    intro n i u g1 g2 h K
    obtain ⟨fw, fm, fp, fq, fn, fo, fd, sT, cS, fT, su, ta, lo, hi, cA, wi, dr, co, cL, bL, bA, bB⟩ := u
    obtain ⟨n, rfl⟩ : ∃ x, n = x + 1 := ⟨n - 1, by omega⟩
    have h0 := h
    obtain ⟨_, _, _, _, hS, hZ⟩ := h0
    show wX_recode_51 post (nI q) (n + 1) (nI i) fw fm fp fq fn fo fd sT cS fT su ta lo hi cA wi dr co cL bL bA bB
    rw [wX_recode_51]
    refine ⟨wq, br_f (by rw [eq, (hS q hq).1]; exact nI_ge (by omega) (by omega)) ⟨vp_in_nI (by omega) (by omega),
      xm_wb hB hm hM (by omega) h (by rw [xq_cl (by omega)]; exact hZ i (by omega)) (fun u' h' => ?_)⟩⟩
    have := ih n (i + 1) u' (by omega) (by omega) h' K
    obtain ⟨fw1, fm1, fp1, fq1, fn1, fo1, fd1, sT1, cS1, fT1, su1, ta1, lo1, hi1, cA1, wi1, dr1, co1, cL1, bL1, bA1, bB1⟩ := u'
    exact nm_r (nI_1 i) this

theorem yq_rec45 {post : Int32 → SY → Prop} {q p N : Nat} (hq : q < 3) (hp : p + N ≤ 80) (eq' : le q = nI N) (e3 : le 3 = nI p)
    (K : ∀ bi' : Nat → Int32, (∀ j, j < N → bi' (240 + (p + j)) = bi (80 * q + j)) → (∀ i, i < 240 + p → bi' i = bi i) →
      post 0 (gw, gm, gp, gq, gs, gr, gn, gc, gf, bi', upd le 3 (nI (p + N)), sc, ct)) (c : Nat) :
    ∀ (n i : Nat) (bi1 : Nat → Int32), c < n → i + c = N → (∀ j, j < i → bi1 (240 + (p + j)) = bi (80 * q + j)) →
      (∀ x, x < 240 + p → bi1 x = bi x) → wY_recode_45 post (nI q) gw gm gp gq gs gr gn gc gf n (nI i) bi1 le sc ct := by
  have eq : (nI q).toNatClampNeg = q := xq_cl (by omega)
  have wq : vp_in (nI q) 4 := vp_in_nI (by omega) (by omega)
  induction c with
  | zero =>
    intro n i bi1 g1 g2 h1 h2
    obtain ⟨n, rfl⟩ : ∃ x, n = x + 1 := ⟨n - 1, by omega⟩
    rw [wY_recode_45]
    have e : i = N := g2
    subst e
    exact ⟨wq, br_t (by rw [eq, eq']; exact nI_le (Nat.le_refl _) (by omega)) ⟨wq, nm_r (e' := upd le 3 (nI (p + i))) (by rw [eq, eq', e3, nI_add]) (K bi1 h1 h2)⟩⟩
  | succ c ih =>
    intro n i bi1 g1 g2 h1 h2
    obtain ⟨n, rfl⟩ : ∃ x, n = x + 1 := ⟨n - 1, by omega⟩
    rw [wY_recode_45]
    have e1 : nI q * 80 + nI i = nI (80 * q + i) := by
      have a : nI q * 80 = nI (q * 80) := pk_mul q 80
      rw [a, nI_add, Nat.mul_comm q 80]
    have e2 : 240 + le 3 + nI i = nI (240 + (p + i)) := by
      have a : 240 + nI p = nI (240 + p) := nI_add 240 p
      rw [e3, a, nI_add, Nat.add_assoc]
    refine ⟨wq, br_f (by rw [eq, eq']; exact nI_ge (by omega) (by omega)) ⟨by rw [e1]; exact vp_in_nI (by omega) (by omega), by rw [e2]; exact vp_in_nI (by omega) (by omega),
      nm_r (e' := upd bi1 (240 + (p + i)) (bi (80 * q + i))) ?_ (nm_r (nI_1 i) (ih n (i + 1) _ (by omega) (by omega) (fun j hj => ?_) (fun x hx => ?_)))⟩⟩
    · rw [e1, e2, xq_cl (by omega), xq_cl (by omega), h2 (80 * q + i) (by omega)]
    · by_cases ji : j = i
      · rw [ji, pk_us]
      · rw [pk_un (by omega)]
        exact h1 j (by omega)
    · rw [pk_un (by omega)]
      exact h2 x hx

theorem i_vc_recode {k : Nat} {u : SX} {v : SY} (I : i_Rel k u v) (hk : k + 4 ≤ 2052) (v1 : Int32) : wpX_recode (fun r u' => wpY_recode (fun r' v' => r' = r ∧ i_Rel (k + 4) u' v') v v1) u v1 := by
  have I0 : i_Rel (k + 4) u v := I
  obtain ⟨pr, M, L, rs, rp, hB, hG, hX, hY⟩ := I
  have hX0 := hX
  obtain ⟨fw, fm, fp, fq, fn, fo, fd, sT, cS, fT, su, ta, lo, hi, cA, wi, dr, co, cL, bL, bA, bB⟩ := u
  obtain ⟨gw, gm, gp, gq, gs, gr, gn, gc, gf, bi, le, sc, ct⟩ := v
  obtain ⟨x1, ⟨x5, x6, x7⟩, _, _, hS, _⟩ := hX0
  obtain ⟨y1, y2, y3⟩ := hY
  obtain ⟨l1, l2⟩ := y3 3 (by omega)
  unfold wpX_recode wpY_recode
  rcases ca_sl v1 with ⟨a, b⟩ | ⟨q, hq, rfl, a, b⟩
  · exact a _ (br_t rfl (b _ _ (br_f (by decide) ⟨rfl, I0⟩)))
  · have eq : (nI q).toNatClampNeg = q := xq_cl (by omega)
    have wq : vp_in (nI q) 3 := xq_i3 hq
    have wq4 : vp_in (nI q) 4 := vp_in_nI (by omega) (by omega)
    obtain ⟨s1, s2⟩ := hS q hq
    obtain ⟨z1, z2⟩ := y3 q (by omega)
    have hLq := hG.2.1 q
    have hL3 := hG.2.1 3
    refine a _ (br_f (by decide) ⟨wq, ?_⟩)
    by_cases c0 : L q = 0
    · exact br_t (by rw [eq, s1, c0]; rfl) (b _ _ (br_t rfl ⟨wq4, br_t (by rw [eq, z1, c0]; rfl) ⟨rfl, I0⟩⟩))
    · refine br_f (by rw [eq, s1]; exact nI_ne0 (by omega) (by omega)) ⟨wq, ?_⟩
      have y0 : ¬ le (nI q).toNatClampNeg = 0 := by
        rw [eq, z1]
        exact nI_ne0 (by omega) (by omega)
      have ex : fn + bL (nI q).toNatClampNeg = nI (L 3 + L q) := by rw [eq, x5, s1, nI_add]
      have ey : le 3 + le (nI q).toNatClampNeg = nI (L 3 + L q) := by rw [eq, l1, z1, nI_add]
      by_cases f : L 3 + L q ≤ 80
      · refine br_t (by rw [ex]; exact nI_le (b := 80) f (by omega)) ?_
        have hm : ∀ j, mp_cat (M 3) (L 3) (M q) j < 2 := by
          intro j
          unfold mp_cat
          split
          · exact hG.1 3 j
          · exact hG.1 q _
        refine xm_da_One (q := q) hB (hG.1 3) hG hq (by omega) hX (fun u' h' => ?_)
        have h2 := mr_X_cg (m' := mp_cat (M 3) (L 3) (M q)) h' (fun j hj => (if_pos hj).symm)
        have h3 := mr_Z (Z' := fun a _ => ∀ j, j < L q → a j = nI (mp_cat (M 3) (L 3) (M q) (L 3 + j))) h2 (fun a b hz j hj => by
          rw [hz.1 j hj]
          unfold mp_cat
          rw [if_neg (by omega), show L 3 + j - L 3 = j by omega])
        have h4 := xm_rec51 (post := fun r u' => wpY_recode (fun r' v' => r' = r ∧ i_Rel (k + 4) u' v') (gw, gm, gp, gq, gs, gr, gn, gc, gf, bi, le, sc, ct) (nI q)) hB hm hG.1 hq f (L q) (L q + 1) 0 u' (by omega) (by omega) h3 (fun u2 h5 => ?_)
        · obtain ⟨fw1, fm1, fp1, fq1, fn1, fo1, fd1, sT1, cS1, fT1, su1, ta1, lo1, hi1, cA1, wi1, dr1, co1, cL1, bL1, bA1, bB1⟩ := u'
          exact ⟨L q + 1, h4⟩
        · unfold wpY_recode
          refine b _ _ (br_t rfl ⟨wq4, br_f y0 ⟨wq4, br_t (by rw [ey]; exact nI_le (b := 80) f (by omega)) ⟨L q + 1, ?_⟩⟩⟩)
          refine yq_rec45 hq f z1 l1 (fun bi' k1 k2 => ⟨rfl, ?_⟩) (L q) (L q + 1) 0 bi (by omega) (by omega) (fun j hj => by omega) (fun _ _ => rfl)
          refine cj_w hB hG hm f h5 (fun _ _ _ => trivial) ⟨y1, y2, fun r hr => ?_⟩
          by_cases e : r = 3
          · subst e
            rw [mr_ss, mr_ss]
            refine ⟨pk_us, fun j hj => ?_⟩
            unfold mp_cat
            by_cases t : j < L 3
            · rw [if_pos t, k2 _ (by omega)]
              exact l2 j t
            · rw [if_neg t]
              have := k1 (j - L 3) (by omega)
              rw [show 240 + (L 3 + (j - L 3)) = 80 * 3 + j by omega] at this
              rw [this]
              exact z2 _ (by omega)
          · rw [mr_sn e, mr_sn e, pk_un e]
            obtain ⟨w1, w2⟩ := y3 r hr
            have := hG.2.1 r
            exact ⟨w1, fun j hj => (k2 _ (by omega)).trans (w2 j hj)⟩
      · exact br_f (by rw [ex]; exact nI_ge (a := 80) (by omega) (by omega))
          (b _ _ (br_t rfl ⟨wq4, br_f y0 ⟨wq4, br_f (by rw [ey]; exact nI_ge (a := 80) (by omega) (by omega)) ⟨rfl, I0⟩⟩⟩))

-- drop
theorem i_vc_drop {k : Nat} {u : SX} {v : SY} (I : i_Rel k u v) (hk : k + 4 ≤ 2052) (v1 : Int32) : wpX_drop (fun r u' => wpY_drop (fun r' v' => r' = r ∧ i_Rel (k + 4) u' v') v v1) u v1 := by
  have I0 : i_Rel (k + 4) u v := I
  obtain ⟨pr, M, L, rs, rp, hB, hG, hX, hY⟩ := I
  obtain ⟨fw, fm, fp, fq, fn, fo, fd, sT, cS, fT, su, ta, lo, hi, cA, wi, dr, co, cL, bL, bA, bB⟩ := u
  obtain ⟨gw, gm, gp, gq, gs, gr, gn, gc, gf, bi, le, sc, ct⟩ := v
  obtain ⟨⟨x1, x2, x3, x4⟩, ⟨x5, x6, x7⟩, ⟨hA, hE⟩, ⟨hR, hD⟩, hS, hZ⟩ := hX
  obtain ⟨y1, ⟨y4, y5⟩, y3⟩ := hY
  unfold wpX_drop wpY_drop
  rcases ca_sl v1 with ⟨a, b⟩ | ⟨q, hq, rfl, a, b⟩
  · exact a _ (br_t rfl (b _ _ (br_f (by decide) ⟨rfl, I0⟩)))
  · have eq : (nI q).toNatClampNeg = q := xq_cl (by omega)
    have wq : vp_in (nI q) 3 := xq_i3 hq
    have wq4 : vp_in (nI q) 4 := vp_in_nI (by omega) (by omega)
    obtain ⟨s1, s2⟩ := hS q hq
    obtain ⟨z1, z2⟩ := y3 q (by omega)
    have hLq := hG.2.1 q
    refine a _ (br_f (by decide) ⟨wq, ?_⟩)
    by_cases c0 : L q = 0
    · exact br_t (by rw [eq, s1, c0]; rfl) (b _ _ (br_t rfl ⟨wq4, br_t (by rw [eq, z1, c0]; rfl) ⟨rfl, I0⟩⟩))
    · have y0 : ¬ le (nI q).toNatClampNeg = 0 := by
        rw [eq, z1]
        exact nI_ne0 (by omega) (by omega)
      refine br_f (by rw [eq, s1]; exact nI_ne0 (by omega) (by omega)) ⟨wq, nm_r (e' := upd bL q 0) (by rw [eq]) ⟨wq, nm_r (e' := upd cL q 0) (by rw [eq]) ?_⟩⟩
      have hS' : ∀ t, t < 3 → upd bL q 0 t = nI (mr_s L q 0 t) ∧ (1 ≤ mr_s L q 0 t → mr_C pr (M t) (mr_s L q 0 t) t co (upd cL q 0)) := by
        intro t ht
        by_cases e : t = q
        · subst e
          rw [mr_ss, pk_us]
          exact ⟨rfl, fun z => absurd z (by decide)⟩
        · rw [mr_sn e, pk_un e]
          obtain ⟨w1, w2⟩ := hS t ht
          refine ⟨w1, fun z => ?_⟩
          obtain ⟨m1, m2, m3, m4, m5⟩ := w2 z
          exact ⟨(pk_un e).trans m1, m2, m3, m4, m5⟩
      have hYr : ∀ r, r < 4 → upd le q 0 r = nI (mr_s L q 0 r) ∧ ∀ j, j < mr_s L q 0 r → bi (80 * r + j) = nI (M r j) := by
        intro r hr
        by_cases e : r = q
        · subst e
          rw [mr_ss, pk_us]
          exact ⟨rfl, fun j hj => absurd hj (Nat.not_lt_zero j)⟩
        · rw [mr_sn e, pk_un e]
          exact y3 r hr
      have hL' : ∀ r, mr_s L q 0 r ≤ 80 := by
        intro r
        unfold mr_s
        split
        · omega
        · exact hG.2.1 r
      have e3 : mr_s L q 0 3 = L 3 := mr_sn (by omega)
      by_cases d : rs = q
      · subst d
        have e : mr_os rs = nI rs := if_pos hq
        subst x1
        have h32 := hB.2.2.2.1
        have n0 := (mp_I hB (hG.1 3) (L 3)).2.1
        refine br_t (x6.trans e) (xq_cr hB.2.1 (fun sT' cS' fT' su' ta' lo' hi' cA' wi' q1 q2 q3 => ?_))
        refine b _ _ (br_t rfl ⟨wq4, br_f y0 ⟨wq4, nm_r (e' := upd le rs 0) (by rw [eq]) (br_t (y4.trans e) ⟨rfl, ?_⟩)⟩⟩)
        refine ⟨pr, M, mr_s L rs 0, 3, 0, hB, ⟨hG.1, hL', fun z => absurd z (by decide), fun _ => rfl⟩,
          ⟨⟨rfl, x2, x3, x4⟩, ⟨?_, rfl, rfl⟩, ⟨?_, ?_⟩, ⟨q1, fun z => absurd z (by decide)⟩, hS', hZ⟩, ⟨y1, ⟨rfl, rfl⟩, hYr⟩⟩
        · rw [e3]
          exact x5
        · rw [e3]
          exact xp_keep hA (by omega) q2 (by decide)
        · rw [e3]
          exact xe_keep hE q3 (by decide)
      · have no : ¬ mr_os rs = nI q := by
          unfold mr_os
          by_cases c : rs < 3
          · rw [if_pos c, nI_eq (by omega) (by omega)]
            exact d
          · rw [if_neg c]
            intro z
            exact absurd (nI_pos (n := q) (by omega)) (by rw [← z]; decide)
        refine br_f (by rw [x6]; exact no) (b _ _ (br_t rfl ⟨wq4, br_f y0 ⟨wq4, nm_r (e' := upd le q 0) (by rw [eq]) (br_f (by rw [y4]; exact no) ⟨rfl, ?_⟩)⟩⟩))
        refine ⟨pr, M, mr_s L q 0, rs, rp, hB, ⟨hG.1, hL', fun z => ?_, hG.2.2.2⟩,
          ⟨⟨x1, x2, x3, x4⟩, ⟨?_, x6, x7⟩, ⟨?_, ?_⟩, ⟨hR, fun z => ?_⟩, hS', hZ⟩, ⟨y1, ⟨y4, y5⟩, hYr⟩⟩
        · rw [mr_sn d]
          exact hG.2.2.1 z
        · rw [e3]
          exact x5
        · rw [e3]
          exact hA
        · rw [e3]
          exact hE
        · rw [mr_sn d]
          exact hD z

-- compare
theorem cm_end {a b la lb : Nat} (ha : a < 3) (hb : b < 3) (la8 : la ≤ 80) (lb8 : lb ≤ 80) (xa : bL a = nI la) (xb : bL b = nI lb)
    (ya : le a = nI la) (yb : le b = nI lb) : ∃ r : Int32, (∀ post : Int32 → SX → Prop, post r (fw, fm, fp, fq, fn, fo, fd, sT, cS, fT, su, ta, lo, hi, cA, wi, dr, co, cL, bL, bA, bB) → wX_compare_113 post (nI a) (nI b) fw fm fp fq fn fo fd sT cS fT su ta lo hi cA wi dr co cL bL bA bB) ∧
    (∀ post : Int32 → Prop, post r → wY_compare_111 post (nI a) (nI b) gw gm gp gq gs gr gn gc gf bi le sc ct) := by
  have ea : (nI a).toNatClampNeg = a := xq_cl (by omega)
  have eb : (nI b).toNatClampNeg = b := xq_cl (by omega)
  have wa := xq_i3 ha
  have wb := xq_i3 hb
  have va : vp_in (nI a) 4 := vp_in_nI (by omega) (by omega)
  have vb : vp_in (nI b) 4 := vp_in_nI (by omega) (by omega)
  by_cases e : la = lb
  · subst e
    exact ⟨0, fun post hp => ⟨wa, wb, br_t (by rw [ea, eb, xa, xb]) hp⟩, fun post hp => ⟨va, vb, br_t (by rw [ea, eb, ya, yb]) hp⟩⟩
  · have nx : ¬ bL (nI a).toNatClampNeg = bL (nI b).toNatClampNeg := by
      rw [ea, eb, xa, xb, nI_eq (by omega) (by omega)]
      exact e
    have ny : ¬ le (nI a).toNatClampNeg = le (nI b).toNatClampNeg := by
      rw [ea, eb, ya, yb, nI_eq (by omega) (by omega)]
      exact e
    by_cases g : lb ≤ la
    · exact ⟨2, fun post hp => ⟨wa, wb, br_f nx ⟨wa, wb, br_t (by rw [ea, eb, xa, xb]; exact nI_le g (by omega)) hp⟩⟩,
        fun post hp => ⟨va, vb, br_f ny ⟨va, vb, br_t (by rw [ea, eb, ya, yb]; exact nI_le g (by omega)) hp⟩⟩⟩
    · exact ⟨1, fun post hp => ⟨wa, wb, br_f nx ⟨wa, wb, br_f (by rw [ea, eb, xa, xb]; exact nI_ge (by omega) (by omega)) hp⟩⟩,
        fun post hp => ⟨va, vb, br_f ny ⟨va, vb, br_f (by rw [ea, eb, ya, yb]; exact nI_ge (by omega) (by omega)) hp⟩⟩⟩

theorem cm_loop {a b la lb : Nat} {ma mb : Nat → Nat} (ha : a < 3) (hb : b < 3) (la8 : la ≤ 80) (lb8 : lb ≤ 80) (xa : bL a = nI la) (xb : bL b = nI lb)
    (ya : le a = nI la) (yb : le b = nI lb) (ma2 : ∀ j, ma j < 2) (mb2 : ∀ j, mb j < 2) (pa : ∀ j, j < la → bA j = nI (ma j)) (pb : ∀ j, j < lb → bB j = nI (mb j))
    (qa : ∀ j, j < la → bi (80 * a + j) = nI (ma j)) (qb : ∀ j, j < lb → bi (80 * b + j) = nI (mb j)) (c : Nat) :
    ∀ i : Nat, la ≤ i + c → i ≤ 80 → ∃ r : Int32, (∀ (n : Nat) (post : Int32 → SX → Prop), c < n → post r (fw, fm, fp, fq, fn, fo, fd, sT, cS, fT, su, ta, lo, hi, cA, wi, dr, co, cL, bL, bA, bB) → wX_compare_57 post (nI a) (nI b) fw fm fp fq fn fo fd sT cS fT su ta lo hi cA wi dr co cL bL bA bB n (nI i)) ∧
      (∀ (n : Nat) (post : Int32 → Prop), c < n → post r → wY_compare_41 post (nI a) (nI b) gw gm gp gq gs gr gn gc gf bi le sc ct n (nI i)) := by
  have ea : (nI a).toNatClampNeg = a := xq_cl (by omega)
  have eb : (nI b).toNatClampNeg = b := xq_cl (by omega)
  have wa := xq_i3 ha
  have wb := xq_i3 hb
  have va : vp_in (nI a) 4 := vp_in_nI (by omega) (by omega)
  have vb : vp_in (nI b) 4 := vp_in_nI (by omega) (by omega)
  have fin : ∀ i : Nat, i ≤ 80 → (la ≤ i ∨ lb ≤ i) → ∃ r : Int32, (∀ (n : Nat) (post : Int32 → SX → Prop), post r (fw, fm, fp, fq, fn, fo, fd, sT, cS, fT, su, ta, lo, hi, cA, wi, dr, co, cL, bL, bA, bB) → wX_compare_57 post (nI a) (nI b) fw fm fp fq fn fo fd sT cS fT su ta lo hi cA wi dr co cL bL bA bB (n + 1) (nI i)) ∧
      (∀ (n : Nat) (post : Int32 → Prop), post r → wY_compare_41 post (nI a) (nI b) gw gm gp gq gs gr gn gc gf bi le sc ct (n + 1) (nI i)) := by
    intro i hi8 h
    obtain ⟨r, hx, hy⟩ := cm_end (fw := fw) (fm := fm) (fp := fp) (fq := fq) (fn := fn) (fo := fo) (fd := fd) (sT := sT) (cS := cS) (fT := fT) (su := su) (ta := ta)
      (lo := lo) (hi := hi) (cA := cA) (wi := wi) (dr := dr) (co := co) (cL := cL) (bA := bA) (bB := bB) (gw := gw) (gm := gm) (gp := gp) (gq := gq) (gs := gs) (gr := gr)
      (gn := gn) (gc := gc) (gf := gf) (bi := bi) (sc := sc) (ct := ct) ha hb la8 lb8 xa xb ya yb
    refine ⟨r, fun n post hp => ?_, fun n post hp => ?_⟩
    · rw [wX_compare_57]
      by_cases g : la ≤ i
      · exact ⟨wa, br_t (by rw [ea, xa]; exact nI_le g (by omega)) (hx post hp)⟩
      · exact ⟨wa, br_f (by rw [ea, xa]; exact nI_ge (by omega) (by omega)) ⟨wb, br_t (by rw [eb, xb]; exact nI_le (by omega) (by omega)) (hx post hp)⟩⟩
    · rw [wY_compare_41]
      by_cases g : la ≤ i
      · exact ⟨va, br_t (by rw [ea, ya]; exact nI_le g (by omega)) (hy post hp)⟩
      · exact ⟨va, br_f (by rw [ea, ya]; exact nI_ge (by omega) (by omega)) ⟨vb, br_t (by rw [eb, yb]; exact nI_le (by omega) (by omega)) (hy post hp)⟩⟩
  induction c with
  | zero =>
    intro i h1 h8
    obtain ⟨r, hx, hy⟩ := fin i h8 (Or.inl h1)
    refine ⟨r, fun n post hn hp => ?_, fun n post hn hp => ?_⟩
    · obtain ⟨n, rfl⟩ : ∃ x, n = x + 1 := ⟨n - 1, by omega⟩
      exact hx n post hp
    · obtain ⟨n, rfl⟩ : ∃ x, n = x + 1 := ⟨n - 1, by omega⟩
      exact hy n post hp
  | succ c ih =>
    intro i h1 h8
    by_cases h : la ≤ i ∨ lb ≤ i
    · obtain ⟨r, hx, hy⟩ := fin i h8 h
      refine ⟨r, fun n post hn hp => ?_, fun n post hn hp => ?_⟩
      · obtain ⟨n, rfl⟩ : ∃ x, n = x + 1 := ⟨n - 1, by omega⟩
        exact hx n post hp
      · obtain ⟨n, rfl⟩ : ∃ x, n = x + 1 := ⟨n - 1, by omega⟩
        exact hy n post hp
    · have i1 : i < la := by omega
      have i2 : i < lb := by omega
      have ei : (nI i).toNatClampNeg = i := xq_cl (by omega)
      have wi8 : vp_in (nI i) 80 := vp_in_nI (by omega) (by omega)
      have e1 : nI a * 80 + nI i = nI (80 * a + i) := by
        have t : nI a * 80 = nI (a * 80) := pk_mul a 80
        rw [t, nI_add, Nat.mul_comm a 80]
      have e2 : nI b * 80 + nI i = nI (80 * b + i) := by
        have t : nI b * 80 = nI (b * 80) := pk_mul b 80
        rw [t, nI_add, Nat.mul_comm b 80]
      have u1 : vp_in (nI a * 80 + nI i) 320 := by
        rw [e1]
        exact vp_in_nI (by omega) (by omega)
      have u2 : vp_in (nI b * 80 + nI i) 320 := by
        rw [e2]
        exact vp_in_nI (by omega) (by omega)
      have t1 : bi (nI a * 80 + nI i).toNatClampNeg = nI (ma i) := by
        rw [e1, xq_cl (by omega), qa i i1]
      have t2 : bi (nI b * 80 + nI i).toNatClampNeg = nI (mb i) := by
        rw [e2, xq_cl (by omega), qb i i2]
      have xa1 : ¬ bL (nI a).toNatClampNeg ≤ nI i := by
        rw [ea, xa]
        exact nI_ge i1 (by omega)
      have xb1 : ¬ bL (nI b).toNatClampNeg ≤ nI i := by
        rw [eb, xb]
        exact nI_ge i2 (by omega)
      have ya1 : ¬ le (nI a).toNatClampNeg ≤ nI i := by
        rw [ea, ya]
        exact nI_ge i1 (by omega)
      have yb1 : ¬ le (nI b).toNatClampNeg ≤ nI i := by
        rw [eb, yb]
        exact nI_ge i2 (by omega)
      have m1 := ma2 i
      have m2 := mb2 i
      by_cases q : ma i = mb i
      · obtain ⟨r, hx, hy⟩ := ih (i + 1) (by omega) (by omega)
        refine ⟨r, fun n post hn hp => ?_, fun n post hn hp => ?_⟩
        · obtain ⟨n, rfl⟩ : ∃ x, n = x + 1 := ⟨n - 1, by omega⟩
          rw [wX_compare_57]
          exact ⟨wa, br_f xa1 ⟨wb, br_f xb1 ⟨wi8, wi8, br_t (by rw [ei, pa i i1, pb i i2, q]) (nm_r (nI_1 i) (hx n post (by omega) hp))⟩⟩⟩
        · obtain ⟨n, rfl⟩ : ∃ x, n = x + 1 := ⟨n - 1, by omega⟩
          rw [wY_compare_41]
          exact ⟨va, br_f ya1 ⟨vb, br_f yb1 ⟨u1, nm_r t1 ⟨u2, nm_r t2 (br_t (by rw [q]) (nm_r (nI_1 i) (hy n post (by omega) hp)))⟩⟩⟩⟩
      · have nq : ¬ nI (ma i) = nI (mb i) := by
          rw [nI_eq (by omega) (by omega)]
          exact q
        have nx : ¬ bA (nI i).toNatClampNeg = bB (nI i).toNatClampNeg := by
          rw [ei, pa i i1, pb i i2]
          exact nq
        by_cases z : ma i = 0
        · refine ⟨1, fun n post hn hp => ?_, fun n post hn hp => ?_⟩
          · obtain ⟨n, rfl⟩ : ∃ x, n = x + 1 := ⟨n - 1, by omega⟩
            rw [wX_compare_57]
            exact ⟨wa, br_f xa1 ⟨wb, br_f xb1 ⟨wi8, wi8, br_f nx ⟨wi8, br_t (by rw [ei, pa i i1, z]; rfl) hp⟩⟩⟩⟩
          · obtain ⟨n, rfl⟩ : ∃ x, n = x + 1 := ⟨n - 1, by omega⟩
            rw [wY_compare_41]
            exact ⟨va, br_f ya1 ⟨vb, br_f yb1 ⟨u1, nm_r t1 ⟨u2, nm_r t2 (br_f nq (br_t (by rw [z]; rfl) hp))⟩⟩⟩⟩
        · refine ⟨2, fun n post hn hp => ?_, fun n post hn hp => ?_⟩
          · obtain ⟨n, rfl⟩ : ∃ x, n = x + 1 := ⟨n - 1, by omega⟩
            rw [wX_compare_57]
            exact ⟨wa, br_f xa1 ⟨wb, br_f xb1 ⟨wi8, wi8, br_f nx ⟨wi8, br_f (by rw [ei, pa i i1]; exact nI_ne0 (by omega) (by omega)) hp⟩⟩⟩⟩
          · obtain ⟨n, rfl⟩ : ∃ x, n = x + 1 := ⟨n - 1, by omega⟩
            rw [wY_compare_41]
            exact ⟨va, br_f ya1 ⟨vb, br_f yb1 ⟨u1, nm_r t1 ⟨u2, nm_r t2 (br_f nq (br_f (nI_ne0 (by omega) (by omega)) hp))⟩⟩⟩⟩

theorem i_vc_compare {k : Nat} {u : SX} {v : SY} (I : i_Rel k u v) (hk : k + 4 ≤ 2052) (v1 : Int32) (v2 : Int32) : wpX_compare (fun r u' => wpY_compare (fun r' => r' = r ∧ i_Rel (k + 4) u' v) v v1 v2) u v1 v2 := by
  have I0 : i_Rel (k + 4) u v := I
  obtain ⟨pr, M, L, rs, rp, hB, hG, hX, hY⟩ := I
  have hX0 := hX
  have hY0 := hY
  obtain ⟨fw, fm, fp, fq, fn, fo, fd, sT, cS, fT, su, ta, lo, hi, cA, wi, dr, co, cL, bL, bA, bB⟩ := u
  obtain ⟨gw, gm, gp, gq, gs, gr, gn, gc, gf, bi, le, sc, ct⟩ := v
  obtain ⟨x1, x5, _, _, hS, _⟩ := hX0
  obtain ⟨y1, y2, y3⟩ := hY0
  unfold wpX_compare wpY_compare
  rcases ca_sl v1 with ⟨a, b⟩ | ⟨q, hq, rfl, a, b⟩
  · exact a _ (br_t rfl (b _ _ (br_f (by decide) ⟨rfl, I0⟩)))
  · refine a _ (br_f (by decide) ?_)
    rcases ca_sl v2 with ⟨a2, b2⟩ | ⟨t, ht, rfl, a2, b2⟩
    · exact a2 _ (br_t rfl (b _ _ (br_t rfl (b2 _ _ (br_f (by decide) ⟨rfl, I0⟩)))))
    · have eq : (nI q).toNatClampNeg = q := xq_cl (by omega)
      have et : (nI t).toNatClampNeg = t := xq_cl (by omega)
      have wq : vp_in (nI q) 4 := vp_in_nI (by omega) (by omega)
      have wt : vp_in (nI t) 4 := vp_in_nI (by omega) (by omega)
      obtain ⟨s1, s2⟩ := hS q hq
      obtain ⟨s3, s4⟩ := hS t ht
      obtain ⟨z1, z2⟩ := y3 q (by omega)
      obtain ⟨z3, z4⟩ := y3 t (by omega)
      have hq8 := hG.2.1 q
      have ht8 := hG.2.1 t
      refine a2 _ (br_f (by decide) ⟨xq_i3 hq, ?_⟩)
      by_cases c0 : L q = 0
      · exact br_t (by rw [eq, s1, c0]; rfl) (b _ _ (br_t rfl (b2 _ _ (br_t rfl ⟨wq, br_t (by rw [eq, z1, c0]; rfl) ⟨rfl, I0⟩⟩))))
      · have yq : ¬ le (nI q).toNatClampNeg = 0 := by
          rw [eq, z1]
          exact nI_ne0 (by omega) (by omega)
        refine br_f (by rw [eq, s1]; exact nI_ne0 (by omega) (by omega)) ⟨xq_i3 ht, ?_⟩
        by_cases c1 : L t = 0
        · exact br_t (by rw [et, s3, c1]; rfl) (b _ _ (br_t rfl (b2 _ _ (br_t rfl ⟨wq, br_f yq ⟨wt, br_t (by rw [et, z3, c1]; rfl) ⟨rfl, I0⟩⟩⟩))))
        · have yt : ¬ le (nI t).toNatClampNeg = 0 := by
            rw [et, z3]
            exact nI_ne0 (by omega) (by omega)
          refine br_f (by rw [et, s3]; exact nI_ne0 (by omega) (by omega)) ?_
          refine xm_da_One (q := q) hB (hG.1 3) hG hq (by omega) hX (fun u1 h1 => ?_)
          obtain ⟨fw1, fm1, fp1, fq1, fn1, fo1, fd1, sT1, cS1, fT1, su1, ta1, lo1, hi1, cA1, wi1, dr1, co1, cL1, bL1, bA1, bB1⟩ := u1
          refine xm_da_Two (q := t) hB (hG.1 3) hG ht (by omega) h1 (fun u2 h2 => ?_)
          obtain ⟨fw2, fm2, fp2, fq2, fn2, fo2, fd2, sT2, cS2, fT2, su2, ta2, lo2, hi2, cA2, wi2, dr2, co2, cL2, bL2, bA2, bB2⟩ := u2
          have h3 := h2
          obtain ⟨_, _, _, _, hS2, ⟨k1, ⟨b0, ⟨k2, _⟩⟩⟩⟩ := h3
          obtain ⟨r, hx, hy⟩ := cm_loop (fw := fw2) (fm := fm2) (fp := fp2) (fq := fq2) (fn := fn2) (fo := fo2) (fd := fd2) (sT := sT2) (cS := cS2) (fT := fT2) (su := su2) (ta := ta2)
            (lo := lo2) (hi := hi2) (cA := cA2) (wi := wi2) (dr := dr2) (co := co2) (cL := cL2) (gw := gw) (gm := gm) (gp := gp) (gq := gq) (gs := gs) (gr := gr)
            (gn := gn) (gc := gc) (gf := gf) (sc := sc) (ct := ct) hq ht hq8 ht8 (hS2 q hq).1 (hS2 t ht).1 z1 z3 (hG.1 q) (hG.1 t) k2 k1 z2 z4 (L q) 0 (by omega) (by omega)
          refine ⟨L q + 1, hx _ _ (by omega) ?_⟩
          refine b _ _ (br_t rfl (b2 _ _ (br_t rfl ⟨wq, br_f yq ⟨wt, br_f yt ⟨L q + 1, hy _ _ (by omega) ⟨rfl, ?_⟩⟩⟩⟩)))
          exact ⟨pr, M, L, rs, rp, hB, hG, mr_Z h2 (fun _ _ _ => trivial), hY⟩
end
