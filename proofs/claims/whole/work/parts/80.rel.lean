-- the relation, the constructors, the looks
section
variable {fw fm fp fq fn fo fd : Int32} {sT cS fT su ta : Nat → Int32} {lo hi : Nat → Int64} {cA : Nat → Int32} {wi : Nat → Int64} {dr co cL bL bA bB : Nat → Int32}
variable {gw gm gp gq gs gr gn gc gf : Int32} {bi le sc ct : Nat → Int32}
variable {pr : Nat × Nat × Nat × Nat} {M : Nat → Nat → Nat} {L : Nat → Nat} {rs rp : Nat}
def mr_Y (pr : Nat × Nat × Nat × Nat) (M : Nat → Nat → Nat) (L : Nat → Nat) (rs rp : Nat) (v : SY) : Prop :=
  match v with
  | (gw, gm, gp, gq, gs, gr, gn, gc, gf, bi, le, sc, ct) =>
    (gw = nI pr.1 ∧ gm = nI pr.2.1 ∧ gp = nI pr.2.2.1 ∧ gq = nI pr.2.2.2) ∧ (gs = mr_os rs ∧ gr = nI rp) ∧
    ∀ r, r < 4 → le r = nI (L r) ∧ ∀ j, j < L r → bi (80 * r + j) = nI (M r j)

def mr_T : (Nat → Int32) → (Nat → Int32) → Prop := fun _ _ => True

def i_Rel (k : Nat) (u : SX) (v : SY) : Prop :=
  ∃ (pr : Nat × Nat × Nat × Nat) (M : Nat → Nat → Nat) (L : Nat → Nat) (rs rp : Nat), mr_B pr ∧ mr_G M L rs rp ∧
    mr_X pr (M 3) (L 3) M L rs rp mr_T u ∧ mr_Y pr M L rs rp v

theorem i_up {k : Nat} {u : SX} {v : SY} (h : i_Rel k u v) : i_Rel (k + 4) u v := h

-- the arguments' ranges
theorem ca_cl (x : Int32) {a b : Nat} (hab : a ≤ b) (hb : b < 1000) : ∃ c : Nat, a ≤ c ∧ c ≤ b ∧
    (∀ post : Int32 → Prop, post (nI c) → wpX_clamp post x (nI a) (nI b)) ∧
    (∀ (post : Int32 → Prop) (u : SY), post (nI c) → wpY_clamp post u x (nI a) (nI b)) := by
  by_cases h1 : nI a ≤ x
  · by_cases h2 : x ≤ nI b
    · have h0 : ¬ x < 0 := by
        have : (0 : Int32) ≤ x := Int32.le_trans (nI_pos' (by omega)) h1
        exact Int32.not_lt.mpr this
      obtain ⟨j, hj, rfl⟩ := nI_of h0
      rw [nI_leI (by omega) hj] at h1
      rw [nI_leI hj (by omega)] at h2
      refine ⟨j, h1, h2, fun post hp => br_t (nI_le h1 hj) (br_t (nI_le h2 (by omega)) hp), fun post u hp => ?_⟩
      obtain ⟨gw, gm, gp, gq, gs, gr, gn, gc, gf, bi, le, sc, ct⟩ := u
      exact br_t (nI_le h1 hj) (br_t (nI_le h2 (by omega)) hp)
    · refine ⟨b, hab, Nat.le_refl _, fun post hp => br_t h1 (br_f h2 hp), fun post u hp => ?_⟩
      obtain ⟨gw, gm, gp, gq, gs, gr, gn, gc, gf, bi, le, sc, ct⟩ := u
      exact br_t h1 (br_f h2 hp)
  · refine ⟨a, Nat.le_refl _, hab, fun post hp => br_f h1 hp, fun post u hp => ?_⟩
    obtain ⟨gw, gm, gp, gq, gs, gr, gn, gc, gf, bi, le, sc, ct⟩ := u
    exact br_f h1 hp

theorem ca_sl (x : Int32) : ((∀ post : Int32 → Prop, post 0 → wpX_isSlot post x) ∧
      (∀ (post : Int32 → Prop) (u : SY), post 1 → wpY_badSlot post u x)) ∨
    ∃ q : Nat, q < 3 ∧ x = nI q ∧ (∀ post : Int32 → Prop, post 1 → wpX_isSlot post x) ∧
      (∀ (post : Int32 → Prop) (u : SY), post 0 → wpY_badSlot post u x) := by
  rcases pk_ix x (n := 3) (by omega) with h | h | ⟨q, hq, rfl⟩
  · refine Or.inl ⟨fun post hp => br_t h hp, fun post u hp => ?_⟩
    obtain ⟨gw, gm, gp, gq, gs, gr, gn, gc, gf, bi, le, sc, ct⟩ := u
    exact br_t h hp
  · have h3 : (3 : Int32) ≤ x := h
    have h0 : ¬ x < 0 := Int32.not_lt.mpr (Int32.le_trans (by decide) h3)
    refine Or.inl ⟨fun post hp => br_f h0 (br_t h3 hp), fun post u hp => ?_⟩
    obtain ⟨gw, gm, gp, gq, gs, gr, gn, gc, gf, bi, le, sc, ct⟩ := u
    exact br_f h0 (br_f (Int32.not_lt.mpr h3) hp)
  · have h0 : ¬ nI q < 0 := nI_pos (by omega)
    refine Or.inr ⟨q, hq, rfl, fun post hp => br_f h0 (br_f (nI_ge (b := 3) hq (by omega)) hp), fun post u hp => ?_⟩
    obtain ⟨gw, gm, gp, gq, gs, gr, gn, gc, gf, bi, le, sc, ct⟩ := u
    exact br_f h0 (br_t (nI_lt (b := 3) hq (by omega)) hp)

theorem ca_si (x : Int32) : ((∀ post : Int32 → Prop, post 0 → wpX_isSide post x) ∧
      (∀ (post : Int32 → Prop) (u : SY), post 1 → wpY_badSide post u x)) ∨
    ((x = 0 ∨ x = 1) ∧ (∀ post : Int32 → Prop, post 1 → wpX_isSide post x) ∧
      (∀ (post : Int32 → Prop) (u : SY), post 0 → wpY_badSide post u x)) := by
  by_cases h0 : x = 0
  · refine Or.inr ⟨Or.inl h0, fun post hp => br_t h0 hp, fun post u hp => ?_⟩
    obtain ⟨gw, gm, gp, gq, gs, gr, gn, gc, gf, bi, le, sc, ct⟩ := u
    exact br_t h0 hp
  · by_cases h1 : x = 1
    · refine Or.inr ⟨Or.inr h1, fun post hp => br_f h0 (br_t h1 hp), fun post u hp => ?_⟩
      obtain ⟨gw, gm, gp, gq, gs, gr, gn, gc, gf, bi, le, sc, ct⟩ := u
      exact br_f h0 (br_t h1 hp)
    · refine Or.inl ⟨fun post hp => br_f h0 (br_f h1 hp), fun post u hp => ?_⟩
      obtain ⟨gw, gm, gp, gq, gs, gr, gn, gc, gf, bi, le, sc, ct⟩ := u
      exact br_f h0 (br_f h1 hp)

theorem i_vc0 (k0 : Int32) (k1 : Int32) (k2 : Int32) (k3 : Int32) : wpX_init (fun u => wpY_init (fun v => i_Rel 4 u v) k0 k1 k2 k3) k0 k1 k2 k3 := by
  obtain ⟨c0, l0, g0, x0, y0⟩ := ca_cl k0 (a := 1) (b := 4) (by omega) (by omega)
  obtain ⟨c1, l1, g1, x1, y1⟩ := ca_cl k1 (a := 8) (b := 32) (by omega) (by omega)
  obtain ⟨c2, l2, g2, x2, y2⟩ := ca_cl k2 (a := 2) (b := 64) (by omega) (by omega)
  obtain ⟨c3, l3, g3, x3, y3⟩ := ca_cl k3 (a := 2) (b := 64) (by omega) (by omega)
  unfold wpX_init
  refine x0 _ (x1 _ (x2 _ (x3 _ ?_)))
  refine xq_rw g0 (fun sT1 cS1 fT1 su1 ta1 lo1 hi1 cA1 wi1 a1 a2 a3 a4 => ?_)
  refine xq_cr g0 (fun sT2 cS2 fT2 su2 ta2 lo2 hi2 cA2 wi2 d1 d2 d3 => ?_)
  unfold wpY_init
  refine y0 _ _ (y1 _ _ (y2 _ _ (y3 _ _ ?_)))
  have hB : mr_B (c0, c1, c2, c3) := ⟨l0, g0, l1, g1, g2, g3⟩
  refine ⟨(c0, c1, c2, c3), fun _ _ => 0, fun _ => 0, 3, 0, hB, ⟨fun _ _ => (by decide : (0 : Nat) < 2), fun _ => (by decide : (0 : Nat) ≤ 80), fun h => absurd h (by decide), fun _ => rfl⟩,
    ⟨⟨rfl, rfl, rfl, rfl⟩, ⟨rfl, rfl, rfl⟩, ⟨xp_keep a1 (show c0 ≤ 32 by omega) d2 (by decide), xe_keep a3 d3 (by decide)⟩,
      ⟨d1, fun h => absurd h (by decide)⟩, fun q _ => ⟨rfl, fun h => absurd (show 1 ≤ 0 from h) (by decide)⟩, trivial⟩,
    ⟨⟨rfl, rfl, rfl, rfl⟩, ⟨rfl, rfl⟩, fun r _ => ⟨rfl, fun j h => absurd h (Nat.not_lt_zero j)⟩⟩⟩

theorem i_vc_lengthOf {k : Nat} {u : SX} {v : SY} (I : i_Rel k u v) (hk : k + 4 ≤ 2052) (v1 : Int32) : wpX_lengthOf (fun r => wpY_lengthOf (fun r' => r' = r ∧ i_Rel (k + 4) u v) v v1) u v1 := by
  have I0 : i_Rel (k + 4) u v := I
  obtain ⟨pr, M, L, rs, rp, hB, hG, hX, hY⟩ := I
  obtain ⟨fw, fm, fp, fq, fn, fo, fd, sT, cS, fT, su, ta, lo, hi, cA, wi, dr, co, cL, bL, bA, bB⟩ := u
  obtain ⟨gw, gm, gp, gq, gs, gr, gn, gc, gf, bi, le, sc, ct⟩ := v
  obtain ⟨_, _, _, _, hS, _⟩ := hX
  obtain ⟨_, _, hR⟩ := hY
  unfold wpX_lengthOf wpY_lengthOf
  rcases ca_sl v1 with ⟨a, b⟩ | ⟨q, hq, rfl, a, b⟩
  · exact a _ (br_t rfl (b _ _ (br_f (by decide) ⟨rfl, I0⟩)))
  · refine a _ (br_f (by decide) ⟨xq_i3 hq, b _ _ (br_t rfl ⟨vp_in_nI (by omega) (by omega), ?_, I0⟩)⟩)
    rw [xq_cl (by omega), (hS q hq).1, (hR q (by omega)).1]

theorem i_vc_readerSlot {k : Nat} {u : SX} {v : SY} (I : i_Rel k u v) (hk : k + 4 ≤ 2052) : wpX_readerSlot (fun r => wpY_readerSlot (fun r' => r' = r ∧ i_Rel (k + 4) u v) v) u := by
  have I0 : i_Rel (k + 4) u v := I
  obtain ⟨pr, M, L, rs, rp, hB, hG, hX, hY⟩ := I
  obtain ⟨fw, fm, fp, fq, fn, fo, fd, sT, cS, fT, su, ta, lo, hi, cA, wi, dr, co, cL, bL, bA, bB⟩ := u
  obtain ⟨gw, gm, gp, gq, gs, gr, gn, gc, gf, bi, le, sc, ct⟩ := v
  obtain ⟨_, ⟨_, h1, _⟩, _⟩ := hX
  obtain ⟨_, ⟨h2, _⟩, _⟩ := hY
  exact ⟨h2.trans h1.symm, I0⟩

theorem i_vc_position {k : Nat} {u : SX} {v : SY} (I : i_Rel k u v) (hk : k + 4 ≤ 2052) (v1 : Int32) : wpX_position (fun r => wpY_position (fun r' => r' = r ∧ i_Rel (k + 4) u v) v v1) u v1 := by
  have I0 : i_Rel (k + 4) u v := I
  obtain ⟨pr, M, L, rs, rp, hB, hG, hX, hY⟩ := I
  obtain ⟨fw, fm, fp, fq, fn, fo, fd, sT, cS, fT, su, ta, lo, hi, cA, wi, dr, co, cL, bL, bA, bB⟩ := u
  obtain ⟨gw, gm, gp, gq, gs, gr, gn, gc, gf, bi, le, sc, ct⟩ := v
  obtain ⟨_, ⟨h1, _, h2⟩, _⟩ := hX
  obtain ⟨_, ⟨_, h3⟩, h4⟩ := hY
  unfold wpX_position wpY_position
  rcases ca_si v1 with ⟨a, b⟩ | ⟨c, a, b⟩
  · exact a _ (br_t rfl (b _ _ (br_f (by decide) ⟨rfl, I0⟩)))
  · refine a _ (br_f (by decide) ?_)
    by_cases c0 : v1 = 0
    · exact br_t c0 (b _ _ (br_t rfl (br_t c0 ⟨(h4 3 (by omega)).1.trans h1.symm, I0⟩)))
    · exact br_f c0 (b _ _ (br_t rfl (br_f c0 ⟨h3.trans h2.symm, I0⟩)))

-- the reference's replay, for either side, and what it leaves
theorem yq_rpW {post : SY → Prop} (hB : mr_B pr) (hG : mr_G M L rs rp) (h : mr_Y pr M L rs rp (gw, gm, gp, gq, gs, gr, gn, gc, gf, bi, le, sc, ct))
    (K : ∀ (gn' gc' gf' : Int32) (sc' ct' : Nat → Int32), yp_A (mp_a pr (M 3) (L 3)) gn' gc' gf' sc' ct' →
      post (gw, gm, gp, gq, gs, gr, gn', gc', gf', bi, le, sc', ct')) : wpY_replay post (gw, gm, gp, gq, gs, gr, gn, gc, gf, bi, le, sc, ct) 0 := by
  obtain ⟨⟨rfl, rfl, rfl, rfl⟩, ⟨rfl, rfl⟩, hR⟩ := h
  obtain ⟨r1, r2⟩ := hR 3 (by omega)
  exact nm_r r1 (br_f (by decide) (yq_rep24 (r := 3) hB (hG.1 3) (by omega) (hG.2.1 3) r2 K))

theorem yq_rpR {post : SY → Prop} (hB : mr_B pr) (hG : mr_G M L rs rp) (h : mr_Y pr M L rs rp (gw, gm, gp, gq, gs, gr, gn, gc, gf, bi, le, sc, ct))
    (K : ∀ (gn' gc' gf' : Int32) (sc' ct' : Nat → Int32), yp_A (mp_a pr (M rs) rp) gn' gc' gf' sc' ct' →
      post (gw, gm, gp, gq, gs, gr, gn', gc', gf', bi, le, sc', ct')) : wpY_replay post (gw, gm, gp, gq, gs, gr, gn, gc, gf, bi, le, sc, ct) 1 := by
  obtain ⟨⟨rfl, rfl, rfl, rfl⟩, ⟨rfl, rfl⟩, hR⟩ := h
  obtain ⟨g1, g2, g3, g4⟩ := hG
  refine nm_e (br_t rfl ?_)
  by_cases c : rs < 3
  · obtain ⟨k1, k2⟩ := g3 c
    have k3 := g2 rs
    have e : mr_os rs = nI rs := if_pos c
    rw [e] at K ⊢
    exact yq_rep24 hB (g1 rs) (by omega) (by omega) (fun j hj => (hR rs (by omega)).2 j (by omega)) K
  · have z := g4 c
    subst z
    exact yq_rep0 hB K

-- one side's looks
theorem cl_one {s : Nat} {A : Nat × Nat × Nat × (Nat → Nat) × (Nat → Nat)} {Q : SY → Prop} (hs : s < 2)
    (hA : xp_A s A sT cS fT su ta)
    (hR : ∀ post : SY → Prop, (∀ (gn' gc' gf' : Int32) (sc' ct' : Nat → Int32), yp_A A gn' gc' gf' sc' ct' →
      post (gw, gm, gp, gq, gs, gr, gn', gc', gf', bi, le, sc', ct')) → wpY_replay post (gw, gm, gp, gq, gs, gr, gn, gc, gf, bi, le, sc, ct) (nI s))
    (hQ : ∀ (gn' gc' gf' : Int32) (sc' ct' : Nat → Int32), Q (gw, gm, gp, gq, gs, gr, gn', gc', gf', bi, le, sc', ct')) :
    (wpX_states (fun r => wpY_states (fun r' v' => r' = r ∧ Q v') (gw, gm, gp, gq, gs, gr, gn, gc, gf, bi, le, sc, ct) (nI s)) (fw, fm, fp, fq, fn, fo, fd, sT, cS, fT, su, ta, lo, hi, cA, wi, dr, co, cL, bL, bA, bB) (nI s)) ∧
    (wpX_current (fun r => wpY_current (fun r' v' => r' = r ∧ Q v') (gw, gm, gp, gq, gs, gr, gn, gc, gf, bi, le, sc, ct) (nI s)) (fw, fm, fp, fq, fn, fo, fd, sT, cS, fT, su, ta, lo, hi, cA, wi, dr, co, cL, bL, bA, bB) (nI s)) ∧
    (wpX_flushes (fun r => wpY_flushes (fun r' v' => r' = r ∧ Q v') (gw, gm, gp, gq, gs, gr, gn, gc, gf, bi, le, sc, ct) (nI s)) (fw, fm, fp, fq, fn, fo, fd, sT, cS, fT, su, ta, lo, hi, cA, wi, dr, co, cL, bL, bA, bB) (nI s)) := by
  have es : (nI s).toNatClampNeg = s := xq_cl (by omega)
  have ws : vp_in (nI s) 3 := xq_i3 (by omega)
  obtain ⟨a1, a2, a3, a4⟩ := hA
  rcases ca_si (nI s) with ⟨a, b⟩ | ⟨c, a, b⟩
  · exfalso
    have : s = 0 ∨ s = 1 := by omega
    rcases this with rfl | rfl
    · exact absurd (a (fun r => r = 0) rfl).1 (by decide)
    · exact absurd ((a (fun r => r = 0) rfl).2 (by decide)).1 (by decide)
  · refine ⟨?_, ?_, ?_⟩
    · unfold wpX_states wpY_states
      refine a _ (br_f (by decide) ⟨ws, b _ _ (br_t rfl (hR _ (fun gn' gc' gf' sc' ct' h => ⟨?_, hQ _ _ _ _ _⟩)))⟩)
      rw [es, a1]
      exact h.1
    · unfold wpX_current wpY_current
      refine a _ (br_f (by decide) ⟨ws, b _ _ (br_t rfl (hR _ (fun gn' gc' gf' sc' ct' h => ⟨?_, hQ _ _ _ _ _⟩)))⟩)
      rw [es, a2]
      exact h.2.1
    · unfold wpX_flushes wpY_flushes
      refine a _ (br_f (by decide) ⟨ws, b _ _ (br_t rfl (hR _ (fun gn' gc' gf' sc' ct' h => ⟨?_, hQ _ _ _ _ _⟩)))⟩)
      rw [es, a3]
      exact h.2.2.1

theorem cl_cell {s : Nat} {A : Nat × Nat × Nat × (Nat → Nat) × (Nat → Nat)} {Q : SY → Prop} {v2 v3 : Int32} (hs : s < 2) (hn : A.1 ≤ 32)
    (hA : xp_A s A sT cS fT su ta)
    (hR : ∀ post : SY → Prop, (∀ (gn' gc' gf' : Int32) (sc' ct' : Nat → Int32), yp_A A gn' gc' gf' sc' ct' →
      post (gw, gm, gp, gq, gs, gr, gn', gc', gf', bi, le, sc', ct')) → wpY_replay post (gw, gm, gp, gq, gs, gr, gn, gc, gf, bi, le, sc, ct) (nI s))
    (hQ : ∀ (gn' gc' gf' : Int32) (sc' ct' : Nat → Int32), Q (gw, gm, gp, gq, gs, gr, gn', gc', gf', bi, le, sc', ct')) :
    (wpX_next (fun r => wpY_next (fun r' v' => r' = r ∧ Q v') (gw, gm, gp, gq, gs, gr, gn, gc, gf, bi, le, sc, ct) (nI s) v2 v3) (fw, fm, fp, fq, fn, fo, fd, sT, cS, fT, su, ta, lo, hi, cA, wi, dr, co, cL, bL, bA, bB) (nI s) v2 v3) ∧
    (wpX_count (fun r => wpY_count (fun r' v' => r' = r ∧ Q v') (gw, gm, gp, gq, gs, gr, gn, gc, gf, bi, le, sc, ct) (nI s) v2 v3) (fw, fm, fp, fq, fn, fo, fd, sT, cS, fT, su, ta, lo, hi, cA, wi, dr, co, cL, bL, bA, bB) (nI s) v2 v3) := by
  have es : (nI s).toNatClampNeg = s := xq_cl (by omega)
  have ws : vp_in (nI s) 3 := xq_i3 (by omega)
  obtain ⟨a1, a2, a3, a4⟩ := hA
  have ab : (∀ post : Int32 → Prop, post 1 → wpX_isSide post (nI s)) ∧ (∀ (post : Int32 → Prop) (u : SY), post 0 → wpY_badSide post u (nI s)) := by
    rcases ca_si (nI s) with ⟨a, b⟩ | ⟨c, a, b⟩
    · exfalso
      have : s = 0 ∨ s = 1 := by omega
      rcases this with rfl | rfl
      · exact absurd (a (fun r => r = 0) rfl).1 (by decide)
      · exact absurd ((a (fun r => r = 0) rfl).2 (by decide)).1 (by decide)
    · exact ⟨a, b⟩
  obtain ⟨a, b⟩ := ab
  unfold wpX_next wpX_count wpX_isCell wpY_next wpY_count
  rcases pk_ix v2 (n := A.1) (by omega) with h | h | ⟨c, hc, rfl⟩
  · exact ⟨a _ (br_f (by decide) (br_t h (br_t rfl (b _ _ (br_t rfl (hR _ (fun gn' gc' gf' sc' ct' hY => br_t h ⟨rfl, hQ _ _ _ _ _⟩))))))),
      a _ (br_f (by decide) (br_t h (br_t rfl (b _ _ (br_t rfl (hR _ (fun gn' gc' gf' sc' ct' hY => br_t h ⟨rfl, hQ _ _ _ _ _⟩)))))))⟩
  · have h0 : ¬ v2 < 0 := Int32.not_lt.mpr (Int32.le_trans (nI_pos' (by omega)) h)
    have hx : sT (nI s).toNatClampNeg ≤ v2 := by
      rw [es, a1]
      exact h
    exact ⟨a _ (br_f (by decide) (br_f h0 ⟨ws, br_t hx (br_t rfl (b _ _ (br_t rfl (hR _ (fun gn' gc' gf' sc' ct' hY => br_f h0 (br_t (by rw [hY.1]; exact h) ⟨rfl, hQ _ _ _ _ _⟩))))))⟩)),
      a _ (br_f (by decide) (br_f h0 ⟨ws, br_t hx (br_t rfl (b _ _ (br_t rfl (hR _ (fun gn' gc' gf' sc' ct' hY => br_f h0 (br_t (by rw [hY.1]; exact h) ⟨rfl, hQ _ _ _ _ _⟩))))))⟩))⟩
  · have h0 : ¬ nI c < 0 := nI_pos (by omega)
    have hx : ¬ sT (nI s).toNatClampNeg ≤ nI c := by
      rw [es, a1]
      exact nI_ge hc (by omega)
    rcases pk_ix v3 (n := 2) (by omega) with g | g | ⟨d, hd, rfl⟩
    · have g0 : ¬ v3 = 0 := fun z => absurd (z ▸ g) (by decide)
      have g1 : ¬ v3 = 1 := fun z => absurd (z ▸ g) (by decide)
      refine ⟨?_, ?_⟩
      · refine a _ (br_f (by decide) (br_f h0 ⟨ws, br_f hx (br_f g0 (br_f g1 (br_t rfl ?_)))⟩))
        refine b _ _ (br_t rfl (hR _ (fun gn' gc' gf' sc' ct' hY => ?_)))
        exact br_f h0 (br_f (by rw [hY.1]; exact nI_ge hc (by omega)) (br_t g ⟨rfl, hQ _ _ _ _ _⟩))
      · refine a _ (br_f (by decide) (br_f h0 ⟨ws, br_f hx (br_f g0 (br_f g1 (br_t rfl ?_)))⟩))
        refine b _ _ (br_t rfl (hR _ (fun gn' gc' gf' sc' ct' hY => ?_)))
        exact br_f h0 (br_f (by rw [hY.1]; exact nI_ge hc (by omega)) (br_t g ⟨rfl, hQ _ _ _ _ _⟩))
    · have g2 : (2 : Int32) ≤ v3 := g
      have g0 : ¬ v3 = 0 := fun z => absurd (z ▸ g2) (by decide)
      have g1 : ¬ v3 = 1 := fun z => absurd (z ▸ g2) (by decide)
      have gn : ¬ v3 < 0 := Int32.not_lt.mpr (Int32.le_trans (by decide) g2)
      have gl : ¬ v3 ≤ 1 := fun z => absurd (Int32.le_trans g2 z) (by decide)
      refine ⟨?_, ?_⟩
      · refine a _ (br_f (by decide) (br_f h0 ⟨ws, br_f hx (br_f g0 (br_f g1 (br_t rfl ?_)))⟩))
        refine b _ _ (br_t rfl (hR _ (fun gn' gc' gf' sc' ct' hY => ?_)))
        exact br_f h0 (br_f (by rw [hY.1]; exact nI_ge hc (by omega)) (br_f gn (br_f gl ⟨rfl, hQ _ _ _ _ _⟩)))
      · refine a _ (br_f (by decide) (br_f h0 ⟨ws, br_f hx (br_f g0 (br_f g1 (br_t rfl ?_)))⟩))
        refine b _ _ (br_t rfl (hR _ (fun gn' gc' gf' sc' ct' hY => ?_)))
        exact br_f h0 (br_f (by rw [hY.1]; exact nI_ge hc (by omega)) (br_f gn (br_f gl ⟨rfl, hQ _ _ _ _ _⟩)))
    · have gn : ¬ nI d < 0 := nI_pos (by omega)
      have gl : nI d ≤ 1 := nI_le (b := 1) (by omega) (by omega)
      obtain ⟨f1, f2⟩ := a4 (2 * c + d) (by omega)
      have eX : (nI (64 * s + 2 * c) + nI d).toNatClampNeg = 64 * s + (2 * c + d) := by
        rw [nI_add, Nat.add_assoc]
        exact xq_cl (by omega)
      have wX : vp_in (nI (64 * s + 2 * c) + nI d) 192 := by
        rw [nI_add]
        exact xq_i192 (by omega)
      have eY := yq_nb c d (by omega)
      have wY := yq_wb c d (by omega)
      have pick : ∀ {P Q : Prop}, P → (nI d = 0 → P) ∧ (¬ nI d = 0 → ((nI d = 1 → P) ∧ (¬ nI d = 1 → Q))) := by
        intro P Q hp
        refine ⟨fun _ => hp, fun n0 => ⟨fun _ => hp, fun n1 => ?_⟩⟩
        exfalso
        have : d = 0 ∨ d = 1 := by omega
        rcases this with rfl | rfl
        · exact n0 rfl
        · exact n1 rfl
      refine ⟨?_, ?_⟩
      · refine a _ (br_f (by decide) (br_f h0 ⟨ws, br_f hx (pick (br_f (by decide) (xq_cell rfl ⟨wX, ?_⟩)))⟩))
        refine b _ _ (br_t rfl (hR _ (fun gn' gc' gf' sc' ct' hY => ?_)))
        refine br_f h0 (br_f (by rw [hY.1]; exact nI_ge hc (by omega)) (br_f gn (br_t gl ⟨wY, ?_, hQ _ _ _ _ _⟩)))
        rw [eX, eY, f1]
        exact (hY.2.2.2 _ (by omega)).1
      · refine a _ (br_f (by decide) (br_f h0 ⟨ws, br_f hx (pick (br_f (by decide) (xq_cell rfl ⟨wX, ?_⟩)))⟩))
        refine b _ _ (br_t rfl (hR _ (fun gn' gc' gf' sc' ct' hY => ?_)))
        refine br_f h0 (br_f (by rw [hY.1]; exact nI_ge hc (by omega)) (br_f gn (br_t gl ⟨wY, ?_, hQ _ _ _ _ _⟩)))
        rw [eX, eY, f2]
        exact (hY.2.2.2 _ (by omega)).2

-- what a replay leaves is related again
theorem cl_Q {u : SX} {k : Nat} (hB : mr_B pr) (hG : mr_G M L rs rp) (hX : mr_X pr (M 3) (L 3) M L rs rp mr_T u)
    (hY : mr_Y pr M L rs rp (gw, gm, gp, gq, gs, gr, gn, gc, gf, bi, le, sc, ct)) (gn' gc' gf' : Int32) (sc' ct' : Nat → Int32) :
    i_Rel k u (gw, gm, gp, gq, gs, gr, gn', gc', gf', bi, le, sc', ct') := ⟨pr, M, L, rs, rp, hB, hG, hX, hY⟩

theorem i_vc_states {k : Nat} {u : SX} {v : SY} (I : i_Rel k u v) (hk : k + 4 ≤ 2052) (v1 : Int32) : wpX_states (fun r => wpY_states (fun r' v' => r' = r ∧ i_Rel (k + 4) u v') v v1) u v1 := by
  have I0 : i_Rel (k + 4) u v := I
  obtain ⟨pr, M, L, rs, rp, hB, hG, hX, hY⟩ := I
  obtain ⟨gw, gm, gp, gq, gs, gr, gn, gc, gf, bi, le, sc, ct⟩ := v
  have hX' := hX
  obtain ⟨fw, fm, fp, fq, fn, fo, fd, sT, cS, fT, su, ta, lo, hi, cA, wi, dr, co, cL, bL, bA, bB⟩ := u
  obtain ⟨_, _, ⟨hA0, _⟩, ⟨hA1, _⟩, _⟩ := hX'
  rcases ca_si v1 with ⟨a, b⟩ | ⟨rfl | rfl, a, b⟩
  · unfold wpX_states wpY_states
    exact a _ (br_t rfl (b _ _ (br_f (by decide) ⟨rfl, I0⟩)))
  · exact (cl_one (s := 0) (Q := i_Rel (k + 4) _) (by omega) hA0 (fun post K => yq_rpW hB hG hY K) (cl_Q hB hG hX hY)).1
  · exact (cl_one (s := 1) (Q := i_Rel (k + 4) _) (by omega) hA1 (fun post K => yq_rpR hB hG hY K) (cl_Q hB hG hX hY)).1

theorem i_vc_current {k : Nat} {u : SX} {v : SY} (I : i_Rel k u v) (hk : k + 4 ≤ 2052) (v1 : Int32) : wpX_current (fun r => wpY_current (fun r' v' => r' = r ∧ i_Rel (k + 4) u v') v v1) u v1 := by
  have I0 : i_Rel (k + 4) u v := I
  obtain ⟨pr, M, L, rs, rp, hB, hG, hX, hY⟩ := I
  obtain ⟨gw, gm, gp, gq, gs, gr, gn, gc, gf, bi, le, sc, ct⟩ := v
  have hX' := hX
  obtain ⟨fw, fm, fp, fq, fn, fo, fd, sT, cS, fT, su, ta, lo, hi, cA, wi, dr, co, cL, bL, bA, bB⟩ := u
  obtain ⟨_, _, ⟨hA0, _⟩, ⟨hA1, _⟩, _⟩ := hX'
  rcases ca_si v1 with ⟨a, b⟩ | ⟨rfl | rfl, a, b⟩
  · unfold wpX_current wpY_current
    exact a _ (br_t rfl (b _ _ (br_f (by decide) ⟨rfl, I0⟩)))
  · exact (cl_one (s := 0) (Q := i_Rel (k + 4) _) (by omega) hA0 (fun post K => yq_rpW hB hG hY K) (cl_Q hB hG hX hY)).2.1
  · exact (cl_one (s := 1) (Q := i_Rel (k + 4) _) (by omega) hA1 (fun post K => yq_rpR hB hG hY K) (cl_Q hB hG hX hY)).2.1

theorem i_vc_flushes {k : Nat} {u : SX} {v : SY} (I : i_Rel k u v) (hk : k + 4 ≤ 2052) (v1 : Int32) : wpX_flushes (fun r => wpY_flushes (fun r' v' => r' = r ∧ i_Rel (k + 4) u v') v v1) u v1 := by
  have I0 : i_Rel (k + 4) u v := I
  obtain ⟨pr, M, L, rs, rp, hB, hG, hX, hY⟩ := I
  obtain ⟨gw, gm, gp, gq, gs, gr, gn, gc, gf, bi, le, sc, ct⟩ := v
  have hX' := hX
  obtain ⟨fw, fm, fp, fq, fn, fo, fd, sT, cS, fT, su, ta, lo, hi, cA, wi, dr, co, cL, bL, bA, bB⟩ := u
  obtain ⟨_, _, ⟨hA0, _⟩, ⟨hA1, _⟩, _⟩ := hX'
  rcases ca_si v1 with ⟨a, b⟩ | ⟨rfl | rfl, a, b⟩
  · unfold wpX_flushes wpY_flushes
    exact a _ (br_t rfl (b _ _ (br_f (by decide) ⟨rfl, I0⟩)))
  · exact (cl_one (s := 0) (Q := i_Rel (k + 4) _) (by omega) hA0 (fun post K => yq_rpW hB hG hY K) (cl_Q hB hG hX hY)).2.2
  · exact (cl_one (s := 1) (Q := i_Rel (k + 4) _) (by omega) hA1 (fun post K => yq_rpR hB hG hY K) (cl_Q hB hG hX hY)).2.2

theorem i_vc_next {k : Nat} {u : SX} {v : SY} (I : i_Rel k u v) (hk : k + 4 ≤ 2052) (v1 : Int32) (v2 : Int32) (v3 : Int32) : wpX_next (fun r => wpY_next (fun r' v' => r' = r ∧ i_Rel (k + 4) u v') v v1 v2 v3) u v1 v2 v3 := by
  have I0 : i_Rel (k + 4) u v := I
  obtain ⟨pr, M, L, rs, rp, hB, hG, hX, hY⟩ := I
  obtain ⟨gw, gm, gp, gq, gs, gr, gn, gc, gf, bi, le, sc, ct⟩ := v
  have hX' := hX
  have h32 := hB.2.2.2.1
  have n0 := (mp_I hB (hG.1 3) (L 3)).2.1
  have n1 := (mp_I hB (hG.1 rs) rp).2.1
  obtain ⟨fw, fm, fp, fq, fn, fo, fd, sT, cS, fT, su, ta, lo, hi, cA, wi, dr, co, cL, bL, bA, bB⟩ := u
  obtain ⟨_, _, ⟨hA0, _⟩, ⟨hA1, _⟩, _⟩ := hX'
  rcases ca_si v1 with ⟨a, b⟩ | ⟨rfl | rfl, a, b⟩
  · unfold wpX_next wpX_isCell wpY_next
    exact a _ (br_t rfl (br_t rfl (b _ _ (br_f (by decide) ⟨rfl, I0⟩))))
  · exact (cl_cell (s := 0) (Q := i_Rel (k + 4) _) (by omega) (by omega) hA0 (fun post K => yq_rpW hB hG hY K) (cl_Q hB hG hX hY)).1
  · exact (cl_cell (s := 1) (Q := i_Rel (k + 4) _) (by omega) (by omega) hA1 (fun post K => yq_rpR hB hG hY K) (cl_Q hB hG hX hY)).1

theorem i_vc_count {k : Nat} {u : SX} {v : SY} (I : i_Rel k u v) (hk : k + 4 ≤ 2052) (v1 : Int32) (v2 : Int32) (v3 : Int32) : wpX_count (fun r => wpY_count (fun r' v' => r' = r ∧ i_Rel (k + 4) u v') v v1 v2 v3) u v1 v2 v3 := by
  have I0 : i_Rel (k + 4) u v := I
  obtain ⟨pr, M, L, rs, rp, hB, hG, hX, hY⟩ := I
  obtain ⟨gw, gm, gp, gq, gs, gr, gn, gc, gf, bi, le, sc, ct⟩ := v
  have hX' := hX
  have h32 := hB.2.2.2.1
  have n0 := (mp_I hB (hG.1 3) (L 3)).2.1
  have n1 := (mp_I hB (hG.1 rs) rp).2.1
  obtain ⟨fw, fm, fp, fq, fn, fo, fd, sT, cS, fT, su, ta, lo, hi, cA, wi, dr, co, cL, bL, bA, bB⟩ := u
  obtain ⟨_, _, ⟨hA0, _⟩, ⟨hA1, _⟩, _⟩ := hX'
  rcases ca_si v1 with ⟨a, b⟩ | ⟨rfl | rfl, a, b⟩
  · unfold wpX_count wpX_isCell wpY_count
    exact a _ (br_t rfl (br_t rfl (b _ _ (br_f (by decide) ⟨rfl, I0⟩))))
  · exact (cl_cell (s := 0) (Q := i_Rel (k + 4) _) (by omega) (by omega) hA0 (fun post K => yq_rpW hB hG hY K) (cl_Q hB hG hX hY)).2
  · exact (cl_cell (s := 1) (Q := i_Rel (k + 4) _) (by omega) (by omega) hA1 (fun post K => yq_rpR hB hG hY K) (cl_Q hB hG hX hY)).2
end
