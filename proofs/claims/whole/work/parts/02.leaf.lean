/-! stores and counters -/
theorem tl_st {N : Nat} {Q : Nat → Int32} {i v : Int32} {A : (Nat → Int32) → Prop} (k : Nat) (hi : i = nI k) (hk : k < N) (hN : N < 2 ^ 31) (Q' : Nat → Int32) (hQ : upd Q k v = Q') (h : A Q') : vp_in i N ∧ ∀ a : Nat → Int32, a = upd Q i.toNatClampNeg v → A a := by
  subst hi
  refine ⟨vp_in_nI hk hN, fun a ha => ?_⟩
  rw [nI_clamp (by omega), hQ] at ha
  rw [ha]
  exact h
theorem tl_rd {N : Nat} {Q : Nat → Int32} {i : Int32} {A : Int32 → Prop} (k : Nat) (hi : i = nI k) (hk : k < N) (hN : N < 2 ^ 31) (h : A (Q k)) : vp_in i N ∧ A (Q i.toNatClampNeg) := by
  subst hi
  refine ⟨vp_in_nI hk hN, ?_⟩
  rw [nI_clamp (by omega)]
  exact h
theorem tl_pX (f y x : Nat) : nI f * 64 + nI y * 8 + nI x = nI (64 * f + (8 * y + x)) := by
  show nI f * nI 64 + nI y * nI 8 + nI x = _
  rw [pk_mul, pk_mul, nI_add, nI_add]
  exact congrArg nI (by omega)
theorem tl_pY (f y x : Nat) : 64 * nI f + 8 * nI y + nI x = nI (64 * f + (8 * y + x)) := by
  show nI 64 * nI f + nI 8 * nI y + nI x = _
  rw [pk_mul, pk_mul, nI_add, nI_add]
  exact congrArg nI (by omega)
theorem tl_mX (c a b : Nat) : nI a * nI c + nI b = nI (c * a + b) := by
  rw [pk_mul, nI_add, Nat.mul_comm]
theorem tl_mY (c a b : Nat) : nI c * nI a + nI b = nI (c * a + b) := by
  rw [pk_mul, nI_add]
theorem tl_X4 (a b : Nat) : nI a * 4 + nI b = nI (4 * a + b) := tl_mX 4 a b
theorem tl_Y4 (a b : Nat) : 4 * nI a + nI b = nI (4 * a + b) := tl_mY 4 a b
theorem tl_X12 (a b : Nat) : nI a * 12 + nI b = nI (12 * a + b) := tl_mX 12 a b
theorem tl_Y12 (a b : Nat) : 12 * nI a + nI b = nI (12 * a + b) := tl_mY 12 a b
theorem tl_X64 (a b : Nat) : nI a * 64 + nI b = nI (64 * a + b) := tl_mX 64 a b
theorem tl_Y64 (a b : Nat) : 64 * nI a + nI b = nI (64 * a + b) := tl_mY 64 a b
theorem tl_X256 (a b : Nat) : nI a * 256 + nI b = nI (256 * a + b) := tl_mX 256 a b
theorem tl_Y256 (a b : Nat) : 256 * nI a + nI b = nI (256 * a + b) := tl_mY 256 a b
theorem tl_plX {post : Int32 → Prop} {f x y : Nat} (h : post (nI (64 * f + (8 * y + x)))) : wpX_placeOf post (nI f) (nI x) (nI y) := by
  unfold wpX_placeOf
  rw [tl_pX]
  exact h
/-! the leaves of X -/
theorem tl_isF_b {post : Int32 → Prop} {z : Int32} (h : tl_bad 4 z) (hp : post 0) : wpX_isFrame post z := by
  rcases h with h | h
  · exact br_t h hp
  · exact br_f (tl_nneg h (by decide)) (br_t h hp)
theorem tl_isF_g {post : Int32 → Prop} {f : Nat} (h : f < 4) (hp : post 1) : wpX_isFrame post (nI f) :=
  br_f (nI_pos (by omega)) (br_f (nI_ge (b := 4) h (by decide)) hp)
theorem tl_isS_b {post : Int32 → Prop} {z : Int32} (h : tl_bad 2 z) (hp : post 0) : wpX_isSlot post z := by
  rcases h with h | h
  · exact br_t h hp
  · exact br_f (tl_nneg h (by decide)) (br_t h hp)
theorem tl_isS_g {post : Int32 → Prop} {f : Nat} (h : f < 2) (hp : post 1) : wpX_isSlot post (nI f) :=
  br_f (nI_pos (by omega)) (br_f (nI_ge (b := 2) h (by decide)) hp)
theorem tl_isP_x {post : Int32 → Prop} {z w : Int32} (h : tl_bad 8 z) (hp : post 0) : wpX_isPosition post z w := by
  rcases h with h | h
  · exact br_t h hp
  · exact br_f (tl_nneg h (by decide)) (br_t h hp)
theorem tl_isP_y {post : Int32 → Prop} {x : Nat} {w : Int32} (hx : x < 8) (h : tl_bad 8 w) (hp : post 0) : wpX_isPosition post (nI x) w := by
  refine br_f (nI_pos (by omega)) (br_f (nI_ge (b := 8) hx (by decide)) ?_)
  rcases h with h | h
  · exact br_t h hp
  · exact br_f (tl_nneg h (by decide)) (br_t h hp)
theorem tl_isP_g {post : Int32 → Prop} {x y : Nat} (hx : x < 8) (hy : y < 8) (hp : post 1) : wpX_isPosition post (nI x) (nI y) :=
  br_f (nI_pos (by omega)) (br_f (nI_ge (b := 8) hx (by decide)) (br_f (nI_pos (by omega)) (br_f (nI_ge (b := 8) hy (by decide)) hp)))
theorem tl_bR_l {post : Int32 → Prop} {z w : Int32} (h : tl_bad 3 z) (hp : post (-1)) : wpX_blockRefusal post z w := by
  rcases h with h | h
  · exact br_t h hp
  · exact br_f (tl_nneg h (by decide)) (br_f (Int32.not_lt.mpr h) hp)
theorem tl_bR_b {post : Int32 → Prop} {l : Nat} {w : Int32} (hl : l < 3) (h : tl_bad 4 w) (hp : post (-2)) : wpX_blockRefusal post (nI l) w := by
  refine br_f (nI_pos (by omega)) (br_t (nI_lt (b := 3) hl (by decide)) ?_)
  rcases h with h | h
  · exact br_t h hp
  · exact br_f (tl_nneg h (by decide)) (br_f (Int32.not_lt.mpr h) hp)
theorem tl_bR_g {post : Int32 → Prop} {l b : Nat} (hl : l < 3) (hb : b < 4) (hp : post 0) : wpX_blockRefusal post (nI l) (nI b) :=
  br_f (nI_pos (by omega)) (br_t (nI_lt (b := 3) hl (by decide)) (br_f (nI_pos (by omega)) (br_t (nI_lt (b := 4) hb (by decide)) hp)))
theorem tl_vR_l {post : Int32 → Prop} {z w s : Int32} (h : tl_bad 3 z) (hp : post (-1)) : wpX_vectorRefusal post z w s :=
  tl_bR_l h (br_f (by decide) hp)
theorem tl_vR_b {post : Int32 → Prop} {l : Nat} {w s : Int32} (hl : l < 3) (h : tl_bad 4 w) (hp : post (-2)) : wpX_vectorRefusal post (nI l) w s :=
  tl_bR_b hl h (br_f (by decide) hp)
theorem tl_vR_s {post : Int32 → Prop} {l b : Nat} {s : Int32} (hl : l < 3) (hb : b < 4) (h : tl_bad 25 s) (hp : post (-3)) : wpX_vectorRefusal post (nI l) (nI b) s := by
  refine tl_bR_g hl hb (br_t rfl ?_)
  rcases h with h | h
  · exact br_t h hp
  · exact br_f (tl_nneg h (by decide)) (br_f (Int32.not_lt.mpr h) hp)
theorem tl_vR_g {post : Int32 → Prop} {l b s : Nat} (hl : l < 3) (hb : b < 4) (hs : s < 25) (hp : post 0) : wpX_vectorRefusal post (nI l) (nI b) (nI s) :=
  tl_bR_g hl hb (br_t rfl (br_f (nI_pos (by omega)) (br_t (nI_lt (b := 25) hs (by decide)) hp)))
theorem tl_wi {post : Int32 → Prop} {z : Int32} (hp : post (nI (tl_cl z))) : wpX_within post z := by
  rcases tl_cases z with ⟨h, e⟩ | ⟨h, h0, e⟩ | ⟨j, hj, ez, e⟩
  · rw [e] at hp
    exact br_f h hp
  · rw [e] at hp
    exact br_t h0 (br_t h hp)
  · rw [e] at hp
    subst ez
    exact br_t (nI_pos' (by omega)) (br_f (nI_ge (b := 8) hj (by decide)) hp)
theorem tl_neW {post : Int32 → Prop} {P V O OV C SV F : Nat → Int32} {f : Nat} {zx zy : Int32} (hf : f < 4) (hp : post (tl_at P f zx zy)) : wpX_nearest__workPixels post (P, V, O, OV, C, SV, F) (nI f) zx zy := by
  have h1 := tl_cl8 zx
  have h2 := tl_cl8 zy
  unfold wpX_nearest__workPixels
  dsimp only
  refine tl_wi ?_
  refine tl_wi ?_
  exact (tl_rd (N := 256) (Q := P) (A := post) (64 * f + (8 * tl_cl zy + tl_cl zx)) (tl_pX f (tl_cl zy) (tl_cl zx)) (by omega) (by decide) hp)
theorem tl_neO {post : Int32 → Prop} {P V O OV C SV F : Nat → Int32} {f : Nat} {zx zy : Int32} (hf : f < 4) (hp : post (tl_at O f zx zy)) : wpX_nearest__outPixels post (P, V, O, OV, C, SV, F) (nI f) zx zy := by
  have h1 := tl_cl8 zx
  have h2 := tl_cl8 zy
  unfold wpX_nearest__outPixels
  dsimp only
  refine tl_wi ?_
  refine tl_wi ?_
  exact (tl_rd (N := 256) (Q := O) (A := post) (64 * f + (8 * tl_cl zy + tl_cl zx)) (tl_pX f (tl_cl zy) (tl_cl zx)) (by omega) (by decide) hp)
def tl_sz (z : Int32) : Int32 := if 0 ≤ z then z else -z
theorem tl_szX {post : Int32 → Prop} {z : Int32} (hp : post (tl_sz z)) : wpX_size post z := by
  by_cases h : 0 ≤ z
  · rw [show tl_sz z = z from if_pos h] at hp
    exact br_t h hp
  · rw [show tl_sz z = -z from if_neg h] at hp
    exact br_f h hp
theorem tl_pfX {post : Int32 → Prop} {l : Nat} (hl : l < 3) (hp : post (nI (tl_pf l))) : wpX_predictedFrame post (nI l) := by
  by_cases h : l = 2
  · subst h
    exact br_t rfl hp
  · rw [show tl_pf l = 1 from if_neg h] at hp
    exact br_f (fun e => h ((nI_eq (b := 2) (by omega) (by decide)).mp e)) hp
theorem tl_sfX {post : Int32 → Prop} {l : Nat} (hl : l < 3) (hp : post (nI (tl_sf l))) : wpX_sourceFrame post (nI l) := by
  by_cases h : l = 0
  · subst h
    exact br_t rfl hp
  · rw [show tl_sf l = 2 from if_neg h] at hp
    exact br_f (fun e => h ((nI_eq (b := 0) (by omega) (by decide)).mp e)) hp
/-! the leaves of Y -/
theorem tl_bF_b {post : Int32 → Prop} {P O K V OV SV F : Nat → Int32} {z : Int32} (h : tl_bad 4 z) (hp : post 1) : wpY_badFrame post (P, O, K, V, OV, SV, F) z := by
  rcases h with h | h
  · exact br_t h hp
  · exact br_f (tl_nneg h (by decide)) (br_f (tl_nle (m := 3) h (by decide) (by decide)) hp)
theorem tl_bF_g {post : Int32 → Prop} {P O K V OV SV F : Nat → Int32} {f : Nat} (h : f < 4) (hp : post 0) : wpY_badFrame post (P, O, K, V, OV, SV, F) (nI f) :=
  br_f (nI_pos (by omega)) (br_t (nI_le (b := 3) (by omega) (by decide)) hp)
theorem tl_bP_b {post : Int32 → Prop} {P O K V OV SV F : Nat → Int32} {z : Int32} (h : tl_bad 8 z) (hp : post 1) : wpY_badPlace post (P, O, K, V, OV, SV, F) z := by
  rcases h with h | h
  · exact br_t h hp
  · exact br_f (tl_nneg h (by decide)) (br_f (tl_nle (m := 7) h (by decide) (by decide)) hp)
theorem tl_bP_g {post : Int32 → Prop} {P O K V OV SV F : Nat → Int32} {f : Nat} (h : f < 8) (hp : post 0) : wpY_badPlace post (P, O, K, V, OV, SV, F) (nI f) :=
  br_f (nI_pos (by omega)) (br_t (nI_le (b := 7) (by omega) (by decide)) hp)
theorem tl_bS_b {post : Int32 → Prop} {P O K V OV SV F : Nat → Int32} {z : Int32} (h : tl_bad 2 z) (hp : post 1) : wpY_badSlot post (P, O, K, V, OV, SV, F) z := by
  rcases h with h | h
  · exact br_t h hp
  · exact br_f (tl_nneg h (by decide)) (br_f (tl_nle (m := 1) h (by decide) (by decide)) hp)
theorem tl_bS_g {post : Int32 → Prop} {P O K V OV SV F : Nat → Int32} {f : Nat} (h : f < 2) (hp : post 0) : wpY_badSlot post (P, O, K, V, OV, SV, F) (nI f) :=
  br_f (nI_pos (by omega)) (br_t (nI_le (b := 1) (by omega) (by decide)) hp)
theorem tl_bL_b {post : Int32 → Prop} {P O K V OV SV F : Nat → Int32} {z : Int32} (h : tl_bad 3 z) (hp : post 1) : wpY_badLink post (P, O, K, V, OV, SV, F) z := by
  rcases h with h | h
  · exact br_t h hp
  · exact br_f (tl_nneg h (by decide)) (br_f (tl_nle (m := 2) h (by decide) (by decide)) hp)
theorem tl_bL_g {post : Int32 → Prop} {P O K V OV SV F : Nat → Int32} {f : Nat} (h : f < 3) (hp : post 0) : wpY_badLink post (P, O, K, V, OV, SV, F) (nI f) :=
  br_f (nI_pos (by omega)) (br_t (nI_le (b := 2) (by omega) (by decide)) hp)
theorem tl_bB_b {post : Int32 → Prop} {P O K V OV SV F : Nat → Int32} {z : Int32} (h : tl_bad 4 z) (hp : post 1) : wpY_badBlock post (P, O, K, V, OV, SV, F) z := by
  rcases h with h | h
  · exact br_t h hp
  · exact br_f (tl_nneg h (by decide)) (br_f (tl_nle (m := 3) h (by decide) (by decide)) hp)
theorem tl_bB_g {post : Int32 → Prop} {P O K V OV SV F : Nat → Int32} {f : Nat} (h : f < 4) (hp : post 0) : wpY_badBlock post (P, O, K, V, OV, SV, F) (nI f) :=
  br_f (nI_pos (by omega)) (br_t (nI_le (b := 3) (by omega) (by decide)) hp)
theorem tl_bT_b {post : Int32 → Prop} {P O K V OV SV F : Nat → Int32} {z : Int32} (h : tl_bad 25 z) (hp : post 1) : wpY_badStep post (P, O, K, V, OV, SV, F) z := by
  rcases h with h | h
  · exact br_t h hp
  · exact br_f (tl_nneg h (by decide)) (br_f (tl_nle (m := 24) h (by decide) (by decide)) hp)
theorem tl_bT_g {post : Int32 → Prop} {P O K V OV SV F : Nat → Int32} {f : Nat} (h : f < 25) (hp : post 0) : wpY_badStep post (P, O, K, V, OV, SV, F) (nI f) :=
  br_f (nI_pos (by omega)) (br_t (nI_le (b := 24) (by omega) (by decide)) hp)
theorem tl_nY {post : Int32 → Prop} {P O K V OV SV F : Nat → Int32} {z : Int32} (hp : post (nI (tl_cl z))) : wpY_nearest post (P, O, K, V, OV, SV, F) z := by
  rcases tl_cases z with ⟨h, e⟩ | ⟨h, h0, e⟩ | ⟨j, hj, ez, e⟩
  · rw [e] at hp
    exact br_f h hp
  · rw [e] at hp
    exact br_t h0 (br_f (tl_nle (m := 7) h (by decide) (by decide)) hp)
  · rw [e] at hp
    subst ez
    exact br_t (nI_pos' (by omega)) (br_t (nI_le (b := 7) (by omega) (by decide)) hp)
theorem tl_atY {post : Int32 → Prop} {P O K V OV SV F : Nat → Int32} {f : Nat} {zx zy : Int32} (hf : f < 4) (hp : post (tl_at P f zx zy)) : wpY_at post (P, O, K, V, OV, SV, F) (nI f) zx zy := by
  have h1 := tl_cl8 zx
  have h2 := tl_cl8 zy
  unfold wpY_at
  dsimp only
  refine tl_nY ?_
  refine tl_nY ?_
  exact (tl_rd (N := 256) (Q := P) (A := post) (64 * f + (8 * tl_cl zy + tl_cl zx)) (tl_pY f (tl_cl zy) (tl_cl zx)) (by omega) (by decide) hp)
theorem tl_szY {post : Int32 → Prop} {P O K V OV SV F : Nat → Int32} {z : Int32} (hp : post (tl_sz z)) : wpY_size post (P, O, K, V, OV, SV, F) z := by
  by_cases h : 0 ≤ z
  · rw [show tl_sz z = z from if_pos h] at hp
    exact br_t h hp
  · rw [show tl_sz z = -z from if_neg h] at hp
    exact br_f h hp
theorem tl_pfY {post : Int32 → Prop} {P O K V OV SV F : Nat → Int32} {l : Nat} (hl : l < 3) (hp : post (nI (tl_pf l))) : wpY_predicted post (P, O, K, V, OV, SV, F) (nI l) := by
  by_cases h : l = 2
  · subst h
    exact br_t rfl hp
  · rw [show tl_pf l = 1 from if_neg h] at hp
    exact br_f (fun e => h ((nI_eq (b := 2) (by omega) (by decide)).mp e)) hp
theorem tl_sfY {post : Int32 → Prop} {P O K V OV SV F : Nat → Int32} {l : Nat} (hl : l < 3) (hp : post (nI (tl_sf l))) : wpY_source post (P, O, K, V, OV, SV, F) (nI l) := by
  by_cases h : l = 0
  · subst h
    exact br_t rfl hp
  · rw [show tl_sf l = 2 from if_neg h] at hp
    exact br_f (fun e => h ((nI_eq (b := 0) (by omega) (by decide)).mp e)) hp
