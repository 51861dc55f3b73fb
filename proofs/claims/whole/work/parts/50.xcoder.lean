-- the component's coder, method by method
section
variable {fw fm fp fq fn fo fd : Int32} {sT cS fT su ta : Nat → Int32} {lo hi : Nat → Int64} {cA : Nat → Int32} {wi : Nat → Int64} {dr co cL bL bA bB : Nat → Int32}
-- the long arithmetic
theorem xc_sh {x : Nat} (h : x < 4294967296) :
    ((lN x).toUInt64 >>> ((24 : Int32).toInt64.toUInt64 &&& Int64.toUInt64 63)).toInt64 = lN (x / 16777216) := by
  have a := wb_shr (n := x) (k := 24) (by omega) (by omega)
  exact a

theorem xc_wl {x : Nat} (h : x < 4294967296) :
    (lN x <<< ((8 : Int32).toInt64 &&& 63)) &&& 4294967295 = lN (x * 256 % 4294967296) := by
  have a : lN x <<< ((8 : Int32).toInt64 &&& 63) = lN (x * 256) := wb_shl x (k := 8) (by omega)
  rw [a]
  exact wb_mask (n := x * 256) (k := 32) (by omega) (by omega)

theorem xc_wv {x v : Nat} (hv : v < 256) : lN (x * 256 % 4294967296) ||| lN v = lN (x * 256 % 4294967296 + v) := by
  rw [mc_w0]
  exact g_or (k := 8) (p := 256) rfl hv (by omega)

theorem xc_wh {x : Nat} (h : x < 4294967296) :
    ((lN x <<< ((8 : Int32).toInt64 &&& 63)) &&& 4294967295) ||| 255 = lN (x * 256 % 4294967296 + 255) := by
  rw [xc_wl h]
  exact xc_wv (v := 255) (by omega)

theorem xc_ww {x v : Nat} (h : x < 4294967296) (hv : v < 256) :
    ((lN x <<< ((8 : Int32).toInt64 &&& 63)) &&& 4294967295) ||| (nI v).toInt64 = lN (x * 256 % 4294967296 + v) := by
  rw [xc_wl h, nI_l (by omega)]
  exact xc_wv hv

-- the parts
theorem xq_split {post : Int64 → Prop} {s c z y l h : Nat} (hs : s < 3) (hc : c < 32) (ec : cS s = nI c)
    (ez : ta (64 * s + 2 * c) = nI z) (ey : ta (64 * s + (2 * c + 1)) = nI y) (el : lo s = lN l) (eh : hi s = lN h)
    (h1 : 1 ≤ z + y) (h2 : z + y ≤ 128) (hl : l ≤ h) (hh : h < 4294967296) (k : post (lN (mc_sp z (z + y) l h))) :
    wpX_splitPoint post (fw, fm, fp, fq, fn, fo, fd, sT, cS, fT, su, ta, lo, hi, cA, wi, dr, co, cL, bL, bA, bB) (nI s) := by
  have es : (nI s).toNatClampNeg = s := xq_cl (by omega)
  have ws : vp_in (nI s) 3 := xq_i3 hs
  have e0 : (nI (64 * s + 2 * c)).toNatClampNeg = 64 * s + 2 * c := xq_cl (by omega)
  have e1 : (nI (64 * s + 2 * c) + 1).toNatClampNeg = 64 * s + (2 * c + 1) := xq_cl1 (by omega)
  refine ⟨ws, xq_cell (c := c) (by rw [es]; exact ec) ⟨xq_i192 (by omega), nm_r (e' := nI z) (by rw [e0, ez]) ⟨xq_i1 (by omega),
    nm_r (e' := nI (z + y)) (by rw [e1, ey, nI_add]) ⟨ws, ws, ws,
    xq_por (a := h - l) (by rw [es, el, eh]; exact lN_sub hl) rfl rfl h1 (by omega) (by omega) (by omega) ?_⟩⟩⟩⟩
  show post (lo (nI s).toNatClampNeg + lN ((h - l) * z / (z + y)))
  rw [es, el, lN_add]
  exact k

theorem xq_nar {post : SX → Prop} {s b sp l h : Nat} (hs : s < 3) (hb : b < 2) (el : lo s = lN l) (eh : hi s = lN h)
    (K : ∀ lo' hi' : Nat → Int64, lo' s = lN (if b = 0 then l else sp + 1) → hi' s = lN (if b = 0 then sp else h) →
      (∀ j, j ≠ s → lo' j = lo j ∧ hi' j = hi j) → post (fw, fm, fp, fq, fn, fo, fd, sT, cS, fT, su, ta, lo', hi', cA, wi, dr, co, cL, bL, bA, bB)) :
    wpX_narrow post (fw, fm, fp, fq, fn, fo, fd, sT, cS, fT, su, ta, lo, hi, cA, wi, dr, co, cL, bL, bA, bB) (nI s) (lN sp) (nI b) := by
  have es : (nI s).toNatClampNeg = s := xq_cl (by omega)
  have ws : vp_in (nI s) 3 := xq_i3 hs
  by_cases k : b = 0
  · rw [if_pos k, if_pos k] at K
    subst k
    exact br_t (show nI 0 = 0 from nI_0) ⟨ws, nm_r (e' := vp_updL hi s (lN sp)) (by rw [es])
      (K _ _ el pk_uLs (fun j hj => ⟨rfl, pk_uLn hj⟩))⟩
  · rw [if_neg k, if_neg k] at K
    exact br_f (nI_ne0 (by omega) (by omega)) ⟨ws, nm_r (e' := vp_updL lo s (lN (sp + 1))) (by rw [es, lN_1])
      (K _ _ pk_uLs eh (fun j hj => ⟨pk_uLn hj, rfl⟩))⟩

theorem xq_set {post : Int32 → Prop} {s l h : Nat} (hs : s < 3) (el : lo s = lN l) (eh : hi s = lN h)
    (hl : l < 4294967296) (hh : h < 4294967296) (k1 : l / 16777216 = h / 16777216 → post 1)
    (k0 : ¬ l / 16777216 = h / 16777216 → post 0) : wpX_isFirstByteSettled post (fw, fm, fp, fq, fn, fo, fd, sT, cS, fT, su, ta, lo, hi, cA, wi, dr, co, cL, bL, bA, bB) (nI s) := by
  have es : (nI s).toNatClampNeg = s := xq_cl (by omega)
  have ws : vp_in (nI s) 3 := xq_i3 hs
  refine ⟨ws, ws, ?_⟩
  rw [es, el, eh, xc_sh hl, xc_sh hh]
  exact ek_if (pk_lEQ (by omega) (by omega)) k1 k0

theorem xq_app {post : SX → Prop} {x : Int64} {k v : Nat} (hx : x = lN v) (hk : k < 81) (ek : cA 0 = nI k)
    (K : ∀ cA' : Nat → Int32, cA' 0 = nI (k + 1) → (∀ j, j ≠ 0 → cA' j = cA j) →
      post (fw, fm, fp, fq, fn, fo, fd, sT, cS, fT, su, ta, lo, hi, cA', wi, upd dr k (sb_b v), co, cL, bL, bA, bB)) : wpX_appendByte post (fw, fm, fp, fq, fn, fo, fd, sT, cS, fT, su, ta, lo, hi, cA, wi, dr, co, cL, bL, bA, bB) x := by
  subst hx
  have e : (cA 0).toNatClampNeg = k := by
    rw [ek]
    exact xq_cl (by omega)
  have w : vp_in (cA 0) 81 := by
    rw [ek]
    exact vp_in_nI hk (by omega)
  refine br_f (by rw [ek]; exact nI_ge (b := 81) hk (by omega)) ⟨w, nm_r (e' := upd dr k (sb_b v))
    (by simp only [e, lN_i, pk_vb, sb_b]) (nm_e (K _ ?_ (fun j hj => pk_un hj)))⟩
  rw [pk_us, ek, nI_1]

theorem xq_wid {post : SX → Prop} {s l h : Nat} (hs : s < 3) (el : lo s = lN l) (eh : hi s = lN h)
    (hl : l < 4294967296) (hh : h < 4294967296)
    (K : ∀ lo' hi' : Nat → Int64, lo' s = lN (l * 256 % 4294967296) → hi' s = lN (h * 256 % 4294967296 + 255) →
      (∀ j, j ≠ s → lo' j = lo j ∧ hi' j = hi j) → post (fw, fm, fp, fq, fn, fo, fd, sT, cS, fT, su, ta, lo', hi', cA, wi, dr, co, cL, bL, bA, bB)) : wpX_widen post (fw, fm, fp, fq, fn, fo, fd, sT, cS, fT, su, ta, lo, hi, cA, wi, dr, co, cL, bL, bA, bB) (nI s) := by
  have es : (nI s).toNatClampNeg = s := xq_cl (by omega)
  have ws : vp_in (nI s) 3 := xq_i3 hs
  exact ⟨ws, ws, nm_r (e' := vp_updL lo s (lN (l * 256 % 4294967296))) (by rw [es, el, xc_wl hl]) ⟨ws, ws,
    nm_r (e' := vp_updL hi s (lN (h * 256 % 4294967296 + 255))) (by rw [es, eh, xc_wh hh])
      (K _ _ pk_uLs pk_uLs (fun j hj => ⟨pk_uLn hj, pk_uLn hj⟩))⟩⟩

-- a sealed code: L bytes B at slot q
def xr_C (q L : Nat) (B : Nat → Nat) (co cL : Nat → Int32) : Prop :=
  cL q = nI L ∧ L ≤ 81 ∧ (∀ j, j < L → co (81 * q + j) = sb_b (B j)) ∧ (∀ j, B j < 256) ∧ ∀ j, L ≤ j → B j = 0

theorem xq_r48 {post : SX → Prop} {s v w : Nat} (hs : s < 3) (hv : v < 256) (ew : wi s = lN w) (hw : w < 4294967296)
    (h : post (fw, fm, fp, fq, fn, fo, fd, sT, cS, fT, su, ta, lo, hi, cA, vp_updL wi s (lN (w * 256 % 4294967296 + v)), dr, co, cL, bL, bA, bB)) : wX_readByte_48 post (nI s) (nI v) fw fm fp fq fn fo fd sT cS fT su ta lo hi cA wi dr co cL bL bA bB := by
  have es : (nI s).toNatClampNeg = s := xq_cl (by omega)
  have ws : vp_in (nI s) 3 := xq_i3 hs
  exact ⟨ws, ws, nm_r (e' := vp_updL wi s (lN (w * 256 % 4294967296 + v))) (by rw [es, ew, xc_ww hw hv]) h⟩

theorem xq_read {post : SX → Prop} {s q L P w : Nat} {B : Nat → Nat} (hs : s < 3) (hq : q < 3) (hC : xr_C q L B co cL)
    (ea : cA s = nI (min P L)) (ew : wi s = lN w) (hw : w < 4294967296)
    (K : ∀ (cA' : Nat → Int32) (wi' : Nat → Int64), cA' s = nI (min (P + 1) L) → wi' s = lN (w * 256 % 4294967296 + B P) →
      (∀ j, j ≠ s → cA' j = cA j ∧ wi' j = wi j) → post (fw, fm, fp, fq, fn, fo, fd, sT, cS, fT, su, ta, lo, hi, cA', wi', dr, co, cL, bL, bA, bB)) :
    wpX_readByte post (fw, fm, fp, fq, fn, fo, fd, sT, cS, fT, su, ta, lo, hi, cA, wi, dr, co, cL, bL, bA, bB) (nI s) (nI q) := by
  have es : (nI s).toNatClampNeg = s := xq_cl (by omega)
  have ws : vp_in (nI s) 3 := xq_i3 hs
  have eq : (nI q).toNatClampNeg = q := xq_cl (by omega)
  have wq : vp_in (nI q) 3 := xq_i3 hq
  obtain ⟨c1, c2, c3, c4, c5⟩ := hC
  by_cases hP : P < L
  · rw [show min P L = P by omega] at ea
    rw [show min (P + 1) L = P + 1 by omega] at K
    have ei : nI q * 81 + cA (nI s).toNatClampNeg = nI (81 * q + P) := by
      have a : nI q * 81 = nI (q * 81) := pk_mul q 81
      rw [es, ea, a, nI_add, Nat.mul_comm q 81]
    have wi' : vp_in (nI q * 81 + cA (nI s).toNatClampNeg) 243 := by
      rw [ei]
      exact vp_in_nI (by omega) (by omega)
    have eb : co (nI q * 81 + cA (nI s).toNatClampNeg).toNatClampNeg &&& 255 = nI (B P) := by
      rw [ei, xq_cl (by omega), c3 P hP]
      exact (sb_byte _ (c4 P)).1
    refine ⟨ws, wq, br_f (by rw [eq, es, c1, ea]; exact nI_ge hP (by omega)) ⟨ws, wi', nm_r eb ⟨ws, ws,
      nm_r (e' := upd cA s (nI (P + 1))) (by rw [es, ea, nI_1]) (xq_r48 hs (c4 P) ew hw
        (K _ _ pk_us pk_uLs (fun j hj => ⟨pk_un hj, pk_uLn hj⟩)))⟩⟩⟩
  · rw [show min P L = L by omega] at ea
    rw [show min (P + 1) L = L by omega, c5 P (by omega)] at K
    exact ⟨ws, wq, br_t (by rw [eq, es, c1, ea]; exact nI_le (Nat.le_refl _) (by omega)) (xq_r48 (v := 0) hs (by omega) ew hw
      (K _ _ ea pk_uLs (fun j hj => ⟨rfl, pk_uLn hj⟩)))⟩

-- writing: what the writer's coder holds, and what the other sides keep
def xe_P (r : Nat × Nat × Nat × (Nat → Nat)) (lo hi : Nat → Int64) (cA dr : Nat → Int32) : Prop :=
  lo 0 = lN r.1 ∧ hi 0 = lN r.2.1 ∧ cA 0 = nI r.2.2.1 ∧ ∀ j, j < r.2.2.1 → dr j = sb_b (r.2.2.2 j)

def xe_F (lo hi : Nat → Int64) (cA : Nat → Int32) (lo' hi' : Nat → Int64) (cA' : Nat → Int32) : Prop :=
  ∀ j, j ≠ 0 → lo' j = lo j ∧ hi' j = hi j ∧ cA' j = cA j

theorem xq_enc16 {post : SX → Prop} (f : Nat) : ∀ (i n l h k : Nat) (b : Nat → Nat) (lo hi : Nat → Int64) (cA dr : Nat → Int32),
    i + f = 4 → f < n → l ≤ h → h < 4294967296 → xe_P (l, h, k, b) lo hi cA dr → (mc_rn f l h k b).2.2.1 ≤ 81 →
    (∀ (lo' hi' : Nat → Int64) (cA' dr' : Nat → Int32), xe_P (mc_rn f l h k b) lo' hi' cA' dr' → xe_F lo hi cA lo' hi' cA' →
      post (fw, fm, fp, fq, fn, fo, fd, sT, cS, fT, su, ta, lo', hi', cA', wi, dr', co, cL, bL, bA, bB)) → wX_encodeBit_16 post n (nI i) fw fm fp fq fn fo fd sT cS fT su ta lo hi cA wi dr co cL bL bA bB := by
  induction f with
  | zero =>
    intro i n l h k b lo hi cA dr h1 h2 h3 h4 hP hk K
    obtain ⟨n, rfl⟩ : ∃ m, n = m + 1 := ⟨n - 1, by omega⟩
    rw [wX_encodeBit_16]
    exact br_t (nI_le (a := 4) (by omega) (by omega)) (K lo hi cA dr hP (fun _ _ => ⟨rfl, rfl, rfl⟩))
  | succ f ih =>
    intro i n l h k b lo hi cA dr h1 h2 h3 h4 hP hk K
    obtain ⟨n, rfl⟩ : ∃ m, n = m + 1 := ⟨n - 1, by omega⟩
    obtain ⟨el, eh, ek, ed⟩ := hP
    dsimp only at el eh ek ed
    rw [wX_encodeBit_16]
    by_cases e : l / 16777216 = h / 16777216
    · rw [mc_rn_t e] at hk K
      obtain ⟨w1, w2, w3⟩ := mc_w1 h3 e
      obtain ⟨m, lo', hi', b', r1, r2, r3, r4, r5, r6, r7, r8, r9⟩ :=
        mc_rn_ok f _ _ (k + 1) (fun j => if j = k then l / 16777216 else b j) w1 w2
      have hk' : k + 1 + m ≤ 81 := by
        rw [r1] at hk
        exact hk
      refine br_f (nI_ge (b := 4) (by omega) (by omega)) (xq_set (s := 0) (by omega) el eh (by omega) h4 (fun _ => ?_) (fun z => absurd e z))
      refine br_f (by decide) (xq_app (k := k) (v := l / 16777216) (by rw [el]; exact xc_sh (by omega)) (by omega) ek (fun cA' c1 c2 => ?_))
      refine xq_wid (s := 0) (by omega) el eh (by omega) h4 (fun lo' hi' p1 p2 p3 => nm_r (nI_1 i) ?_)
      refine ih (i + 1) n _ _ (k + 1) _ lo' hi' cA' _ (by omega) (by omega) w1 w2 ⟨p1, p2, c1, fun j hj => ?_⟩ hk
        (fun lo2 hi2 cA2 dr2 P F => K lo2 hi2 cA2 dr2 P (fun j hj => ?_))
      · by_cases jk : j = k
        · subst jk
          rw [pk_us]
          exact congrArg sb_b (if_pos rfl).symm
        · rw [pk_un jk, ed j (by have : j < k + 1 := hj; omega)]
          exact congrArg sb_b (if_neg jk).symm
      · obtain ⟨a, b, c⟩ := F j hj
        exact ⟨a.trans (p3 j hj).1, b.trans (p3 j hj).2, c.trans (c2 j hj)⟩
    · rw [mc_rn_f e] at hk K
      exact br_f (nI_ge (b := 4) (by omega) (by omega)) (xq_set (s := 0) (by omega) el eh (by omega) h4 (fun z => absurd z e)
        (fun _ => br_t rfl (K lo hi cA dr ⟨el, eh, ek, ed⟩ (fun _ _ => ⟨rfl, rfl, rfl⟩))))

theorem xq_enc {post : SX → Prop} {c z y b : Nat} {r : Nat × Nat × Nat × (Nat → Nat)} (hb : b < 2) (hc : c < 32)
    (ec : cS 0 = nI c) (ez : ta (64 * 0 + 2 * c) = nI z) (ey : ta (64 * 0 + (2 * c + 1)) = nI y) (h1 : 1 ≤ z) (h2 : 1 ≤ y)
    (h3 : z + y ≤ 128) (hP : xe_P r lo hi cA dr) (hlt : r.1 < r.2.1) (hh : r.2.1 < 4294967296)
    (hk : (mc_st z (z + y) b r).2.2.1 ≤ 81)
    (K : ∀ (lo' hi' : Nat → Int64) (cA' dr' : Nat → Int32), xe_P (mc_st z (z + y) b r) lo' hi' cA' dr' →
      xe_F lo hi cA lo' hi' cA' → post (fw, fm, fp, fq, fn, fo, fd, sT, cS, fT, su, ta, lo', hi', cA', wi, dr', co, cL, bL, bA, bB)) :
    wpX_encodeBit post (fw, fm, fp, fq, fn, fo, fd, sT, cS, fT, su, ta, lo, hi, cA, wi, dr, co, cL, bL, bA, bB) (nI b) := by
  obtain ⟨l, h, k, bs⟩ := r
  obtain ⟨el, eh, ek, ed⟩ := hP
  dsimp only at el eh ek ed hlt hh
  obtain ⟨a1, a2, a3, a4⟩ := mc_sp_ok h1 (show z < z + y by omega) h3 hlt
  unfold wpX_encodeBit
  refine xq_split (s := 0) (by omega) hc ec ez ey el eh (by omega) h3 (by omega) hh ?_
  refine xq_nar (s := 0) (by omega) hb el eh (fun lo' hi' n1 n2 n3 => ⟨5, ?_⟩)
  have fr : ∀ (lo2 hi2 : Nat → Int64) (cA2 : Nat → Int32), xe_F lo' hi' cA lo2 hi2 cA2 → xe_F lo hi cA lo2 hi2 cA2 := by
    intro lo2 hi2 cA2 F j hj
    obtain ⟨x1, x2, x3⟩ := F j hj
    exact ⟨x1.trans (n3 j hj).1, x2.trans (n3 j hj).2, x3⟩
  by_cases q : b = 0
  · have e : mc_st z (z + y) b (l, h, k, bs) = mc_rn 4 l (mc_sp z (z + y) l h) k bs := if_pos q
    rw [if_pos q] at n1 n2
    rw [e] at hk K
    exact xq_enc16 4 0 5 l _ k bs lo' hi' cA dr rfl (by omega) a1 (by omega) ⟨n1, n2, ek, ed⟩ hk
      (fun lo2 hi2 cA2 dr2 P F => K lo2 hi2 cA2 dr2 P (fr _ _ _ F))
  · have e : mc_st z (z + y) b (l, h, k, bs) = mc_rn 4 (mc_sp z (z + y) l h + 1) h k bs := if_neg q
    rw [if_neg q] at n1 n2
    rw [e] at hk K
    exact xq_enc16 4 0 5 _ h k bs lo' hi' cA dr rfl (by omega) a2 hh ⟨n1, n2, ek, ed⟩ hk
      (fun lo2 hi2 cA2 dr2 P F => K lo2 hi2 cA2 dr2 P (fr _ _ _ F))

-- reading: what side s holds of the code B at slot q
def xd_P (s : Nat) (r : Nat × Nat × Nat × (Nat → Nat)) (L : Nat) (B : Nat → Nat) (lo hi : Nat → Int64) (cA : Nat → Int32)
    (wi : Nat → Int64) : Prop :=
  lo s = lN r.1 ∧ hi s = lN r.2.1 ∧ cA s = nI (min (r.2.2.1 + 4) L) ∧ wi s = lN (mc_W B r.2.2.1)

def xd_F (s : Nat) (lo hi : Nat → Int64) (cA : Nat → Int32) (wi lo' hi' : Nat → Int64) (cA' : Nat → Int32)
    (wi' : Nat → Int64) : Prop :=
  ∀ j, j ≠ s → lo' j = lo j ∧ hi' j = hi j ∧ cA' j = cA j ∧ wi' j = wi j

theorem xq_dec35 {post : Int32 → SX → Prop} {s q L : Nat} {B : Nat → Nat} {x5 : Int32} (hs : s < 3) (hq : q < 3)
    (hC : xr_C q L B co cL) (f : Nat) : ∀ (i n l h k : Nat) (b : Nat → Nat) (lo hi : Nat → Int64) (cA : Nat → Int32) (wi : Nat → Int64),
    i + f = 4 → f < n → l ≤ h → h < 4294967296 → xd_P s (l, h, k, b) L B lo hi cA wi →
    (∀ (lo' hi' : Nat → Int64) (cA' : Nat → Int32) (wi' : Nat → Int64), xd_P s (mc_rn f l h k b) L B lo' hi' cA' wi' →
      xd_F s lo hi cA wi lo' hi' cA' wi' → wX_decodeBit_66 post (nI s) x5 fw fm fp fq fn fo fd sT cS fT su ta lo' hi' cA' wi' dr co cL bL bA bB) →
    wX_decodeBit_35 post (nI s) (nI q) x5 n (nI i) fw fm fp fq fn fo fd sT cS fT su ta lo hi cA wi dr co cL bL bA bB := by
  induction f with
  | zero =>
    intro i n l h k b lo hi cA wi h1 h2 h3 h4 hP K
    obtain ⟨n, rfl⟩ : ∃ m, n = m + 1 := ⟨n - 1, by omega⟩
    rw [wX_decodeBit_35]
    exact br_t (nI_le (a := 4) (by omega) (by omega)) (K lo hi cA wi hP (fun _ _ => ⟨rfl, rfl, rfl, rfl⟩))
  | succ f ih =>
    intro i n l h k b lo hi cA wi h1 h2 h3 h4 hP K
    obtain ⟨n, rfl⟩ : ∃ m, n = m + 1 := ⟨n - 1, by omega⟩
    obtain ⟨el, eh, ea, ew⟩ := hP
    dsimp only at el eh ea ew
    obtain ⟨m1, m2⟩ := mc_W_s k hC.2.2.2.1
    rw [wX_decodeBit_35]
    by_cases e : l / 16777216 = h / 16777216
    · rw [mc_rn_t e] at K
      obtain ⟨w1, w2, w3⟩ := mc_w1 h3 e
      refine br_f (nI_ge (b := 4) (by omega) (by omega)) (xq_set hs el eh (by omega) h4 (fun _ => ?_) (fun z => absurd e z))
      refine br_f (by decide) (xq_wid hs el eh (by omega) h4 (fun lo' hi' p1 p2 p3 => ?_))
      refine xq_read hs hq hC ea ew m2 (fun cA' wi' c1 c2 c3 => nm_r (nI_1 i) ?_)
      rw [← m1] at c2
      rw [show k + 4 + 1 = k + 1 + 4 by omega] at c1
      refine ih (i + 1) n _ _ (k + 1) _ lo' hi' cA' wi' (by omega) (by omega) w1 w2 ⟨p1, p2, c1, c2⟩
        (fun lo2 hi2 cA2 wi2 P F => K lo2 hi2 cA2 wi2 P (fun j hj => ?_))
      obtain ⟨x1, x2, x3, x4⟩ := F j hj
      exact ⟨x1.trans (p3 j hj).1, x2.trans (p3 j hj).2, x3.trans (c3 j hj).1, x4.trans (c3 j hj).2⟩
    · rw [mc_rn_f e] at K
      exact br_f (nI_ge (b := 4) (by omega) (by omega)) (xq_set hs el eh (by omega) h4 (fun z => absurd z e)
        (fun _ => br_t rfl (K lo hi cA wi ⟨el, eh, ea, ew⟩ (fun _ _ => ⟨rfl, rfl, rfl, rfl⟩))))

theorem xq_dec {post : Int32 → SX → Prop} {s q L b wd mx t1 t2 p : Nat} {B : Nat → Nat}
    {A : Nat × Nat × Nat × (Nat → Nat) × (Nat → Nat)} {r : Nat × Nat × Nat × (Nat → Nat)} {z y : Nat}
    (hs : s < 3) (hq : q < 3) (hb : b < 2) (hw : wd ≤ 4) (hm : mx ≤ 32) (ht1 : t1 < 1000) (ht2 : t2 < 1000) (hp : p < 1000)
    (hI : ma_I mx p A) (hA : xp_A s A sT cS fT su ta) (hC : xr_C q L B co cL) (hP : xd_P s r L B lo hi cA wi)
    (hlt : r.1 < r.2.1) (hh : r.2.1 < 4294967296) (hz : z = A.2.2.2.2 (2 * A.2.1)) (hy : y = A.2.2.2.2 (2 * A.2.1 + 1))
    (d0 : b = 0 → mc_W B r.2.2.1 ≤ mc_sp z (z + y) r.1 r.2.1)
    (d1 : ¬ b = 0 → ¬ mc_W B r.2.2.1 ≤ mc_sp z (z + y) r.1 r.2.1)
    (K : ∀ (sT' cS' fT' su' ta' : Nat → Int32) (lo' hi' : Nat → Int64) (cA' : Nat → Int32) (wi' : Nat → Int64),
      xp_A s (ma_ln wd mx t1 t2 b A) sT' cS' fT' su' ta' → xp_F s sT cS fT su ta sT' cS' fT' su' ta' →
      xd_P s (mc_st z (z + y) b r) L B lo' hi' cA' wi' → xd_F s lo hi cA wi lo' hi' cA' wi' →
      post (nI b) (nI wd, nI mx, nI t1, nI t2, fn, fo, fd, sT', cS', fT', su', ta', lo', hi', cA', wi', dr, co, cL, bL, bA, bB)) :
    wpX_decodeBit post (nI wd, nI mx, nI t1, nI t2, fn, fo, fd, sT, cS, fT, su, ta, lo, hi, cA, wi, dr, co, cL, bL, bA, bB) (nI s) (nI q) := by
  obtain ⟨l, h, k, bs⟩ := r
  have hP' := hP
  obtain ⟨el, eh, ea, ew⟩ := hP'
  dsimp only at el eh ea ew hlt hh d0 d1
  have hI' := hI
  obtain ⟨i1, i2, i3, i4, i5, i6⟩ := hI'
  have z1 : 1 ≤ z := by rw [hz]; exact i6.1 _ (by omega)
  have y1 : 1 ≤ y := by rw [hy]; exact i6.1 _ (by omega)
  have zy : z + y ≤ 128 := by rw [hz, hy]; exact i6.2 _ i3
  have es : (nI s).toNatClampNeg = s := xq_cl (by omega)
  have ws : vp_in (nI s) 3 := xq_i3 hs
  obtain ⟨a1, a2, a3, a4⟩ := mc_sp_ok z1 (show z < z + y by omega) zy hlt
  obtain ⟨m1, m2⟩ := mc_W_s k hC.2.2.2.1
  unfold wpX_decodeBit
  refine xq_split (c := A.2.1) hs (by omega) hA.2.1 (by rw [hz]; exact (hA.2.2.2 _ (by omega)).2)
    (by rw [hy]; exact (hA.2.2.2 _ (by omega)).2) el eh (by omega) zy (by omega) hh ⟨ws, ?_⟩
  have go : ∀ l1 h1 : Nat, l1 ≤ h1 → h1 < 4294967296 → l1 = (if b = 0 then l else mc_sp z (z + y) l h + 1) →
      h1 = (if b = 0 then mc_sp z (z + y) l h else h) → mc_st z (z + y) b (l, h, k, bs) = mc_rn 4 l1 h1 k bs →
      wX_decodeBit_22 post (nI s) (nI q) (lN (mc_sp z (z + y) l h)) (nI b) (nI wd) (nI mx) (nI t1) (nI t2) fn fo fd sT cS fT su ta lo hi cA wi dr co cL bL bA bB := by
    intro l1 h1 g1 g2 g3 g4 g5
    rw [g5] at K
    unfold wX_decodeBit_22
    refine xq_nar hs hb el eh (fun lo' hi' n1 n2 n3 => ⟨5, ?_⟩)
    rw [← g3] at n1
    rw [← g4] at n2
    refine xq_dec35 hs hq hC 4 0 5 l1 h1 k bs lo' hi' cA wi rfl (by omega) g1 g2 ⟨n1, n2, ea, ew⟩
      (fun lo2 hi2 cA2 wi2 P F => ?_)
    unfold wX_decodeBit_66
    refine xq_learn hs hb hw hm ht1 ht2 hp hI hA (fun sT' cS' fT' su' ta' q1 q2 => K _ _ _ _ _ _ _ _ _ q1 q2 P (fun j hj => ?_))
    obtain ⟨x1, x2, x3, x4⟩ := F j hj
    exact ⟨x1.trans (n3 j hj).1, x2.trans (n3 j hj).2, x3, x4⟩
  by_cases c : b = 0
  · refine br_f (by rw [es, ew]; exact fun t => absurd ((pk_lLT (by omega) (by omega)).mp t) (by have := d0 c; omega)) ?_
    have := go l (mc_sp z (z + y) l h) a1 (by omega) (if_pos c).symm (if_pos c).symm (if_pos c)
    subst c
    exact this
  · refine br_t (by rw [es, ew]; exact (pk_lLT (by omega) (by omega)).mpr (by have := d1 c; omega)) ?_
    have := go (mc_sp z (z + y) l h + 1) h a2 hh (if_neg c).symm (if_neg c).symm (if_neg c)
    have c1 : b = 1 := by omega
    subst c1
    exact this

theorem xq_fc {post : SX → Prop} {s : Nat} (hs : s < 3)
    (K : ∀ (lo' hi' : Nat → Int64) (cA' : Nat → Int32) (wi' : Nat → Int64), lo' s = lN 0 → hi' s = lN 4294967295 →
      cA' s = nI 0 → wi' s = lN 0 → xd_F s lo hi cA wi lo' hi' cA' wi' → post (fw, fm, fp, fq, fn, fo, fd, sT, cS, fT, su, ta, lo', hi', cA', wi', dr, co, cL, bL, bA, bB)) :
    wpX_freshCoder post (fw, fm, fp, fq, fn, fo, fd, sT, cS, fT, su, ta, lo, hi, cA, wi, dr, co, cL, bL, bA, bB) (nI s) := by
  have es : (nI s).toNatClampNeg = s := xq_cl (by omega)
  have ws : vp_in (nI s) 3 := xq_i3 hs
  exact ⟨ws, nm_r (e' := vp_updL lo s 0) (by rw [es]) ⟨ws, nm_r (e' := vp_updL hi s 4294967295) (by rw [es]) ⟨ws,
    nm_r (e' := upd cA s 0) (by rw [es]) ⟨ws, nm_r (e' := vp_updL wi s 0) (by rw [es])
      (K _ _ _ _ pk_uLs pk_uLs pk_us pk_uLs (fun j hj => ⟨pk_uLn hj, pk_uLn hj, pk_un hj, pk_uLn hj⟩))⟩⟩⟩⟩

def xw_i (B : Nat → Nat) : Nat → Nat
  | 0 => 0
  | i + 1 => xw_i B i * 256 % 4294967296 + B i

theorem xw_b {B : Nat → Nat} (hB : ∀ j, B j < 256) (i : Nat) : xw_i B i < 4294967296 := by
  cases i with
  | zero => exact (by decide : 0 < 4294967296)
  | succ i =>
    show xw_i B i * 256 % 4294967296 + B i < 4294967296
    have := hB i
    rw [mc_w0]
    omega

theorem xw_4 {B : Nat → Nat} (hB : ∀ j, B j < 256) : xw_i B 4 = mc_W B 0 := by
  have h0 := hB 0
  have h1 := hB 1
  have h2 := hB 2
  have h3 := hB 3
  show (((0 * 256 % 4294967296 + B 0) * 256 % 4294967296 + B 1) * 256 % 4294967296 + B 2) * 256 % 4294967296 + B 3 =
    B 0 * 16777216 + B 1 * 65536 + B 2 * 256 + B 3
  omega

theorem xq_st12 {post : SX → Prop} {s q L : Nat} {B : Nat → Nat} (hs : s < 3) (hq : q < 3) (hC : xr_C q L B co cL) (n : Nat) :
    ∀ (i : Nat) (cA : Nat → Int32) (wi : Nat → Int64), i ≤ 4 → 4 < n + i → cA s = nI (min i L) → wi s = lN (xw_i B i) →
    (∀ (cA' : Nat → Int32) (wi' : Nat → Int64), cA' s = nI (min 4 L) → wi' s = lN (xw_i B 4) →
      (∀ j, j ≠ s → cA' j = cA j ∧ wi' j = wi j) → post (fw, fm, fp, fq, fn, fo, fd, sT, cS, fT, su, ta, lo, hi, cA', wi', dr, co, cL, bL, bA, bB)) →
    wX_startDecoding_12 post (nI s) (nI q) n (nI i) fw fm fp fq fn fo fd sT cS fT su ta lo hi cA wi dr co cL bL bA bB := by
  induction n with
  | zero => intro i cA wi h1 h2; omega
  | succ n ih =>
    intro i cA wi h1 h2 ea ew K
    rw [wX_startDecoding_12]
    by_cases e : i = 4
    · subst e
      exact br_t (nI_le (a := 4) (by omega) (by omega)) (K cA wi ea ew (fun _ _ => ⟨rfl, rfl⟩))
    · refine br_f (nI_ge (b := 4) (by omega) (by omega)) (xq_read hs hq hC ea ew (xw_b hC.2.2.2.1 i) (fun cA' wi' c1 c2 c3 => nm_r (nI_1 i) ?_))
      refine ih (i + 1) cA' wi' (by omega) (by omega) c1 c2 (fun cA2 wi2 k1 k2 k3 => K cA2 wi2 k1 k2 (fun j hj => ?_))
      exact ⟨(k3 j hj).1.trans (c3 j hj).1, (k3 j hj).2.trans (c3 j hj).2⟩

theorem xq_start {post : SX → Prop} {s q L wd : Nat} {B : Nat → Nat} (hs : s < 3) (hq : q < 3) (hw : wd ≤ 4)
    (hC : xr_C q L B co cL)
    (K : ∀ (sT' cS' fT' su' ta' : Nat → Int32) (lo' hi' : Nat → Int64) (cA' : Nat → Int32) (wi' : Nat → Int64),
      xp_A s (ma_sh wd 0) sT' cS' fT' su' ta' → xp_F s sT cS fT su ta sT' cS' fT' su' ta' →
      xd_P s (0, 4294967295, 0, fun _ => 0) L B lo' hi' cA' wi' → xd_F s lo hi cA wi lo' hi' cA' wi' →
      post (nI wd, fm, fp, fq, fn, fo, fd, sT', cS', fT', su', ta', lo', hi', cA', wi', dr, co, cL, bL, bA, bB)) :
    wpX_startDecoding post (nI wd, fm, fp, fq, fn, fo, fd, sT, cS, fT, su, ta, lo, hi, cA, wi, dr, co, cL, bL, bA, bB) (nI s) (nI q) := by
  unfold wpX_startDecoding
  refine xq_fresh hs hw (fun sT' cS' fT' su' ta' a1 a2 => ?_)
  refine xq_fc hs (fun lo' hi' cA' wi' b1 b2 b3 b4 b5 => ⟨5, ?_⟩)
  refine xq_st12 hs hq hC 5 0 cA' wi' (by omega) (by omega) (b3.trans (congrArg nI (by omega))) b4 (fun cA2 wi2 c1 c2 c3 => ?_)
  refine K _ _ _ _ _ _ _ _ _ a1 a2 ⟨b1, b2, c1, c2.trans (congrArg lN (xw_4 hC.2.2.2.1))⟩ (fun j hj => ?_)
  obtain ⟨x1, x2, x3, x4⟩ := b5 j hj
  exact ⟨x1, x2, (c3 j hj).1.trans x3, (c3 j hj).2.trans x4⟩
end
