/-! ramp, drift, roughen: each side fills one frame -/
theorem tl_le8 : nI 8 ≤ nI 8 := by decide
theorem tl_inw {f y x : Nat} (hf : f < 4) (hy : y < 8) (hx : x < 8) : vp_in (nI (64 * f + (8 * y + x))) 256 := vp_in_nI (by omega) (by decide)
/-- one store into the frame at (x, y) -/
theorem tl_put {A : (Nat → Int32) → Prop} {P g : Nat → Int32} {f y x N : Nat} {v : Int32} (hN : 64 * f + (8 * y + x) < N) (h31 : N < 2 ^ 31) (hv : v = g (8 * y + x)) (h : A (tl_fill P (64 * f) (8 * y + (x + 1)) g)) : vp_in (nI (64 * f + (8 * y + x))) N ∧ ∀ a : Nat → Int32, a = upd (tl_fill P (64 * f) (8 * y + x) g) (nI (64 * f + (8 * y + x))).toNatClampNeg v → A a :=
  tl_st (64 * f + (8 * y + x)) rfl hN h31 _ (tl_fillS hv) h
def tl_gr (a b c : Int32) : Nat → Int32 := fun i => (a * nI (i % 8) + b * nI (i / 8) + c) &&& 255
theorem tl_md {y x : Nat} (h : x < 8) : (8 * y + x) % 8 = x := by omega
theorem tl_dv {y x : Nat} (h : x < 8) : (8 * y + x) / 8 = y := by omega
theorem tl_grv (a b c : Int32) {y x : Nat} (h : x < 8) : (a * nI x + b * nI y + c) &&& 255 = tl_gr a b c (8 * y + x) := by
  unfold tl_gr
  rw [tl_md h, tl_dv h]
section
variable {P V O OV C K SV F : Nat → Int32}
theorem tl_rampX1 {post : Int32 → SX → Prop} {J : Int32 → (Nat → Int32) → (Nat → Int32) → (Nat → Int32) → (Nat → Int32) → (Nat → Int32) → (Nat → Int32) → (Nat → Int32) → Prop} {f y : Nat} {a b c : Int32} (hf : f < 4) (hy : y < 8)
    (hJ : J (nI (y + 1)) (tl_fill P (64 * f) (8 * (y + 1)) (tl_gr a b c)) V O OV C SV F) :
    ∃ n, wX_ramp_22 post J (nI f) a b c (nI y) n 0 (tl_fill P (64 * f) (8 * y) (tl_gr a b c)) V O OV C SV F := by
  refine loop_0 (fun n i Q => wX_ramp_22 post J (nI f) a b c (nI y) n (nI i) Q V O OV C SV F) (fun i Q => Q = tl_fill P (64 * f) (8 * y + i) (tl_gr a b c)) 8 _ rfl ?_ ?_
  · intro n Q hQ
    subst hQ
    exact br_t tl_le8 (nm_r (nI_1 y) hJ)
  · intro n i Q hi hQ ih
    subst hQ
    exact br_f (nI_ge (b := 8) hi (by decide)) (tl_plX (tl_put (by omega) (by decide) (tl_grv a b c hi) (nm_r (nI_1 i) (ih _ rfl))))
theorem tl_lastX {post : Int32 → Prop} {f : Nat} (hf : f < 4) (hp : post (P (64 * f + 63))) : wpX_lastPixelOf post (P, V, O, OV, C, SV, F) (nI f) := by
  have e : nI f * 64 + 64 - 1 = nI (64 * f + 63) := by
    show nI f * nI 64 + nI 64 - nI 1 = _
    rw [pk_mul, nI_add, pk_sub (by omega)]
    exact congrArg nI (by omega)
  unfold wpX_lastPixelOf
  dsimp only
  rw [e, nI_clamp (by omega)]
  exact ⟨vp_in_nI (by omega) (by decide), hp⟩
theorem tl_lastY {A : Prop} {post : Int32 → Prop} {f : Nat} (hf : f < 4) (hp : post (P (64 * f + 63))) : vp_in (64 * nI f + 63) 256 ∧ post (P (64 * nI f + 63).toNatClampNeg) := by
  have e : 64 * nI f + 63 = nI (64 * f + 63) := tl_mY 64 f 63
  rw [e, nI_clamp (by omega)]
  exact ⟨vp_in_nI (by omega) (by decide), hp⟩
theorem tl_rampX {post : Int32 → SX → Prop} {f : Nat} {a b c : Int32} (hf : f < 4)
    (hp : post (tl_fill P (64 * f) 64 (tl_gr a b c) (64 * f + 63)) (tl_fill P (64 * f) 64 (tl_gr a b c), V, O, OV, C, SV, F)) :
    ∃ n, wX_ramp_12 post (nI f) a b c n 0 P V O OV C SV F := by
  refine loop_0 (fun n i Q => wX_ramp_12 post (nI f) a b c n (nI i) Q V O OV C SV F) (fun i Q => Q = tl_fill P (64 * f) (8 * i) (tl_gr a b c)) 8 _ (tl_fill0 _ _ _).symm ?_ ?_
  · intro n Q hQ
    subst hQ
    exact br_t tl_le8 (tl_lastX hf hp)
  · intro n i Q hi hQ ih
    subst hQ
    exact br_f (nI_ge (b := 8) hi (by decide)) (tl_rampX1 hf hi (ih _ rfl))
theorem tl_rampY1 {post : Int32 → SY → Prop} {J : Int32 → (Nat → Int32) → (Nat → Int32) → (Nat → Int32) → (Nat → Int32) → (Nat → Int32) → (Nat → Int32) → (Nat → Int32) → Prop} {f y : Nat} {a b c : Int32} (hf : f < 4) (hy : y < 8)
    (hJ : J (nI (y + 1)) (tl_fill P (64 * f) (8 * (y + 1)) (tl_gr a b c)) O K V OV SV F) :
    ∃ n, wY_ramp_23 post J (nI f) a b c (nI y) n 0 (tl_fill P (64 * f) (8 * y) (tl_gr a b c)) O K V OV SV F := by
  refine loop_0 (fun n i Q => wY_ramp_23 post J (nI f) a b c (nI y) n (nI i) Q O K V OV SV F) (fun i Q => Q = tl_fill P (64 * f) (8 * y + i) (tl_gr a b c)) 8 _ rfl ?_ ?_
  · intro n Q hQ
    subst hQ
    exact br_t tl_le8 (nm_r (nI_1 y) hJ)
  · intro n i Q hi hQ ih
    subst hQ
    exact br_f (nI_ge (b := 8) hi (by decide)) (tl_st (64 * f + (8 * y + i)) (tl_pY f y i) (by omega) (by decide) _ (tl_fillS (tl_grv a b c hi)) (nm_r (nI_1 i) (ih _ rfl)))
theorem tl_rampY {post : Int32 → SY → Prop} {f : Nat} {a b c : Int32} (hf : f < 4)
    (hp : post (tl_fill P (64 * f) 64 (tl_gr a b c) (64 * f + 63)) (tl_fill P (64 * f) 64 (tl_gr a b c), O, K, V, OV, SV, F)) :
    ∃ n, wY_ramp_13 post (nI f) a b c n 0 P O K V OV SV F := by
  refine loop_0 (fun n i Q => wY_ramp_13 post (nI f) a b c n (nI i) Q O K V OV SV F) (fun i Q => Q = tl_fill P (64 * f) (8 * i) (tl_gr a b c)) 8 _ (tl_fill0 _ _ _).symm ?_ ?_
  · intro n Q hQ
    subst hQ
    exact br_t tl_le8 (tl_lastY (A := True) (post := fun r => post r (tl_fill P (64 * f) 64 (tl_gr a b c), O, K, V, OV, SV, F)) hf hp)
  · intro n i Q hi hQ ih
    subst hQ
    exact br_f (nI_ge (b := 8) hi (by decide)) (tl_rampY1 hf hi (ih _ rfl))
end
theorem i_vc_ramp {k : Nat} {u : SX} {v : SY} (I : i_Rel k u v) (hk : k + 5 ≤ 2560) (v1 : Int32) (v2 : Int32) (v3 : Int32) (v4 : Int32) : wpX_ramp (fun r u' => wpY_ramp (fun r' v' => r' = r ∧ i_Rel (k + 5) u' v') v v1 v2 v3 v4) u v1 v2 v3 v4 := by
  obtain ⟨P, V, O, OV, C, K, SV, F, rfl, rfl, hP, hO, hK, hE⟩ := I
  unfold wpX_ramp wpY_ramp
  dsimp only
  rcases tl_ix 4 v1 (by decide) with b1 | ⟨f, hf, rfl⟩
  · exact tl_isF_b b1 (br_t rfl (tl_bF_b b1 (br_f (by decide) ⟨rfl, tl_rel _ hP hO hK hE⟩)))
  refine tl_isF_g hf (br_f (by decide) ?_)
  refine tl_rampX hf ?_
  refine tl_bF_g hf (br_t rfl ?_)
  refine tl_rampY hf ?_
  exact ⟨rfl, tl_rel _ (tl_pixfill hP (fun i _ => tl_and2 _)) hO hK hE⟩
/-! drift -/
def tl_gd (P : Nat → Int32) (f : Nat) (dx dy : Int32) : Nat → Int32 := fun i => tl_at P f (nI (i % 8) - dx) (nI (i / 8) - dy)
theorem tl_gdv (P g : Nat → Int32) (f n : Nat) (dx dy : Int32) {y x : Nat} (h : x < 8) : tl_at (tl_fill P (64 * (f + 1)) n g) f (nI x - dx) (nI y - dy) = tl_gd P f dx dy (8 * y + x) := by
  unfold tl_gd
  rw [tl_md h, tl_dv h]
  exact tl_at_c (fun i hi => tl_fout (by omega)) _ _
section
variable {P V O OV C K SV F : Nat → Int32}
theorem tl_driftX1 {post : Int32 → SX → Prop} {J : Int32 → (Nat → Int32) → (Nat → Int32) → (Nat → Int32) → (Nat → Int32) → (Nat → Int32) → (Nat → Int32) → (Nat → Int32) → Prop} {f y : Nat} {dx dy : Int32} (hf : f < 3) (hy : y < 8)
    (hJ : J (nI (y + 1)) (tl_fill P (64 * (f + 1)) (8 * (y + 1)) (tl_gd P f dx dy)) V O OV C SV F) :
    ∃ n, wX_drift_42 post J (nI (f + 1)) dx dy (nI y) n 0 (tl_fill P (64 * (f + 1)) (8 * y) (tl_gd P f dx dy)) V O OV C SV F := by
  refine loop_0 (fun n i Q => wX_drift_42 post J (nI (f + 1)) dx dy (nI y) n (nI i) Q V O OV C SV F) (fun i Q => Q = tl_fill P (64 * (f + 1)) (8 * y + i) (tl_gd P f dx dy)) 8 _ rfl ?_ ?_
  · intro n Q hQ
    subst hQ
    exact br_t tl_le8 (nm_r (nI_1 y) hJ)
  · intro n i Q hi hQ ih
    subst hQ
    refine br_f (nI_ge (b := 8) hi (by decide)) (tl_plX ?_)
    rw [nI_pred]
    refine tl_neW (by omega) ?_
    exact tl_put (by omega) (by decide) (tl_gdv P _ f _ dx dy hi) (nm_r (nI_1 i) (ih _ rfl))
theorem tl_driftX {post : Int32 → SX → Prop} {f : Nat} {dx dy : Int32} (hf : f < 3)
    (hp : post (tl_fill P (64 * (f + 1)) 64 (tl_gd P f dx dy) (64 * (f + 1))) (tl_fill P (64 * (f + 1)) 64 (tl_gd P f dx dy), V, O, OV, C, SV, F)) :
    ∃ n, wX_drift_32 post (nI (f + 1)) dx dy n 0 P V O OV C SV F := by
  refine loop_0 (fun n i Q => wX_drift_32 post (nI (f + 1)) dx dy n (nI i) Q V O OV C SV F) (fun i Q => Q = tl_fill P (64 * (f + 1)) (8 * i) (tl_gd P f dx dy)) 8 _ (tl_fill0 _ _ _).symm ?_ ?_
  · intro n Q hQ
    subst hQ
    refine br_t tl_le8 ?_
    have e : nI (f + 1) * 64 = nI (64 * (f + 1)) := by
      show nI (f + 1) * nI 64 = _
      rw [pk_mul, Nat.mul_comm]
    rw [e, nI_clamp (by omega)]
    exact ⟨vp_in_nI (by omega) (by decide), hp⟩
  · intro n i Q hi hQ ih
    subst hQ
    exact br_f (nI_ge (b := 8) hi (by decide)) (tl_driftX1 hf hi (ih _ rfl))
theorem tl_driftY1 {post : Int32 → SY → Prop} {J : Int32 → (Nat → Int32) → (Nat → Int32) → (Nat → Int32) → (Nat → Int32) → (Nat → Int32) → (Nat → Int32) → (Nat → Int32) → Prop} {f y : Nat} {dx dy : Int32} (hf : f < 3) (hy : y < 8)
    (hJ : J (nI (y + 1)) (tl_fill P (64 * (f + 1)) (8 * (y + 1)) (tl_gd P f dx dy)) O K V OV SV F) :
    ∃ n, wY_drift_52 post J (nI (f + 1)) dx dy (nI y) n 0 (tl_fill P (64 * (f + 1)) (8 * y) (tl_gd P f dx dy)) O K V OV SV F := by
  refine loop_0 (fun n i Q => wY_drift_52 post J (nI (f + 1)) dx dy (nI y) n (nI i) Q O K V OV SV F) (fun i Q => Q = tl_fill P (64 * (f + 1)) (8 * y + i) (tl_gd P f dx dy)) 8 _ rfl ?_ ?_
  · intro n Q hQ
    subst hQ
    exact br_t tl_le8 (nm_r (nI_1 y) hJ)
  · intro n i Q hi hQ ih
    subst hQ
    refine br_f (nI_ge (b := 8) hi (by decide)) ?_
    rw [nI_pred]
    refine tl_atY (by omega) ?_
    exact tl_st (64 * (f + 1) + (8 * y + i)) (tl_pY (f + 1) y i) (by omega) (by decide) _ (tl_fillS (tl_gdv P _ f _ dx dy hi)) (nm_r (nI_1 i) (ih _ rfl))
theorem tl_driftY {post : Int32 → SY → Prop} {f : Nat} {dx dy : Int32} (hf : f < 3)
    (hp : post (tl_fill P (64 * (f + 1)) 64 (tl_gd P f dx dy) (64 * (f + 1))) (tl_fill P (64 * (f + 1)) 64 (tl_gd P f dx dy), O, K, V, OV, SV, F)) :
    ∃ n, wY_drift_42 post (nI (f + 1)) dx dy n 0 P O K V OV SV F := by
  refine loop_0 (fun n i Q => wY_drift_42 post (nI (f + 1)) dx dy n (nI i) Q O K V OV SV F) (fun i Q => Q = tl_fill P (64 * (f + 1)) (8 * i) (tl_gd P f dx dy)) 8 _ (tl_fill0 _ _ _).symm ?_ ?_
  · intro n Q hQ
    subst hQ
    refine br_t tl_le8 ?_
    have e : 64 * nI (f + 1) = nI (64 * (f + 1)) := pk_mul 64 (f + 1)
    rw [e, nI_clamp (by omega)]
    exact ⟨vp_in_nI (by omega) (by decide), hp⟩
  · intro n i Q hi hQ ih
    subst hQ
    exact br_f (nI_ge (b := 8) hi (by decide)) (tl_driftY1 hf hi (ih _ rfl))
end
theorem tl_isD_l {post : Int32 → Prop} {z : Int32} (h : z < -8) (hp : post 0) : wpX_isDrift post z := br_t h hp
theorem tl_isD_r {post : Int32 → Prop} {z : Int32} (h : ¬ z < -8) (h2 : 8 < z) (hp : post 0) : wpX_isDrift post z := br_f h (br_t h2 hp)
theorem tl_isD_g {post : Int32 → Prop} {z : Int32} (h : ¬ z < -8) (h2 : ¬ 8 < z) (hp : post 1) : wpX_isDrift post z := br_f h (br_f h2 hp)
theorem tl_f13 (z : Int32) : z < 1 ∨ (¬ z < 1 ∧ ¬ z < 4 ∧ ¬ z ≤ 3) ∨ ∃ f : Nat, f < 3 ∧ z = nI (f + 1) := by
  rcases pk_ix z (n := 4) (by decide) with h | h | ⟨j, hj, rfl⟩
  · left
    rw [Int32.lt_iff_toInt_lt, show (0 : Int32).toInt = 0 from by decide] at h
    rw [Int32.lt_iff_toInt_lt, show (1 : Int32).toInt = 1 from by decide]
    omega
  · right; left
    refine ⟨?_, Int32.not_lt.mpr h, tl_nle (m := 3) h (by decide) (by decide)⟩
    have h3 := tl_nle (m := 1) h (by decide) (by decide)
    exact fun z1 => h3 (Int32.le_of_lt z1)
  · by_cases h0 : j = 0
    · subst h0
      exact Or.inl (by decide)
    · exact Or.inr (Or.inr ⟨j - 1, by omega, by rw [Nat.sub_add_cancel (by omega)]⟩)
theorem tl_pixat {P : Nat → Int32} {f : Nat} (hf : f < 4) (hP : tl_pix P 256) (zx zy : Int32) : tl_at P f zx zy &&& 255 = tl_at P f zx zy := by
  have h1 := tl_cl8 zx
  have h2 := tl_cl8 zy
  exact hP _ (by omega)
theorem i_vc_drift {k : Nat} {u : SX} {v : SY} (I : i_Rel k u v) (hk : k + 5 ≤ 2560) (v1 : Int32) (v2 : Int32) (v3 : Int32) : wpX_drift (fun r u' => wpY_drift (fun r' v' => r' = r ∧ i_Rel (k + 5) u' v') v v1 v2 v3) u v1 v2 v3 := by
  obtain ⟨P, V, O, OV, C, K, SV, F, rfl, rfl, hP, hO, hK, hE⟩ := I
  unfold wpX_drift wpY_drift
  dsimp only
  rcases tl_f13 v1 with b1 | ⟨b1, b2, b3⟩ | ⟨f, hf, rfl⟩
  · exact br_t b1 (br_t b1 ⟨rfl, tl_rel _ hP hO hK hE⟩)
  · exact br_f b1 (br_f b2 (br_f b1 (br_f b3 ⟨rfl, tl_rel _ hP hO hK hE⟩)))
  have h1 : ¬ nI (f + 1) < 1 := nI_nlt (b := 1) (by omega) (by omega)
  have h4 : nI (f + 1) < 4 := nI_lt (b := 4) (by omega) (by decide)
  have h3 : nI (f + 1) ≤ 3 := nI_le (b := 3) (by omega) (by decide)
  refine br_f h1 (br_t h4 ?_)
  by_cases x1 : v2 < -8
  · exact tl_isD_l x1 (br_t rfl (br_f h1 (br_t h3 (br_t x1 ⟨rfl, tl_rel _ hP hO hK hE⟩))))
  by_cases x2 : 8 < v2
  · exact tl_isD_r x1 x2 (br_t rfl (br_f h1 (br_t h3 (br_f x1 (br_t x2 ⟨rfl, tl_rel _ hP hO hK hE⟩)))))
  refine tl_isD_g x1 x2 (br_f (by decide) ?_)
  by_cases y1 : v3 < -8
  · exact tl_isD_l y1 (br_t rfl (br_f h1 (br_t h3 (br_f x1 (br_f x2 (br_t y1 ⟨rfl, tl_rel _ hP hO hK hE⟩))))))
  by_cases y2 : 8 < v3
  · exact tl_isD_r y1 y2 (br_t rfl (br_f h1 (br_t h3 (br_f x1 (br_f x2 (br_f y1 (br_f (Int32.not_le.mpr y2) ⟨rfl, tl_rel _ hP hO hK hE⟩)))))))
  refine tl_isD_g y1 y2 (br_f (by decide) ?_)
  refine tl_driftX hf ?_
  refine br_f h1 (br_t h3 (br_f x1 (br_f x2 (br_f y1 (br_t (Int32.not_lt.mp y2) ?_)))))
  refine tl_driftY hf ?_
  exact ⟨rfl, tl_rel _ (tl_pixfill hP (fun i _ => tl_pixat (by omega) hP _ _)) hO hK hE⟩
/-! roughen -/
def tl_go (P : Nat → Int32) (f : Nat) (seed : Int32) : Nat → Int32 := fun i => (P (64 * f + i) + (seed * nI (i + 1) &&& 15)) &&& 255
section
variable {P V O OV C K SV F : Nat → Int32}
theorem tl_roughX {post : Int32 → SX → Prop} {f : Nat} {s : Int32} (hf : f < 4)
    (hp : post (tl_fill P (64 * f) 64 (tl_go P f s) (64 * f + 63)) (tl_fill P (64 * f) 64 (tl_go P f s), V, O, OV, C, SV, F)) :
    ∃ n, wX_roughen_11 post (nI f) s n 0 P V O OV C SV F := by
  refine loop_0 (fun n i Q => wX_roughen_11 post (nI f) s n (nI i) Q V O OV C SV F) (fun i Q => Q = tl_fill P (64 * f) i (tl_go P f s)) 64 _ (tl_fill0 _ _ _).symm ?_ ?_
  · intro n Q hQ
    subst hQ
    exact br_t (show nI 64 ≤ nI 64 by decide) (tl_lastX hf hp)
  · intro n i Q hi hQ ih
    subst hQ
    refine br_f (nI_ge (b := 64) hi (by decide)) (nm_r (tl_X64 f i) (nm_r (e' := s * nI (i + 1) &&& 15) (by rw [nI_1]) ⟨vp_in_nI (by omega) (by decide), ?_⟩))
    refine tl_st (64 * f + i) rfl (by omega) (by decide) _ (tl_fillS ?_) (nm_r (nI_1 i) (ih _ rfl))
    rw [nI_clamp (by omega), tl_fout (by omega)]
    rfl
theorem tl_roughY1 {post : Int32 → SY → Prop} {J : Int32 → (Nat → Int32) → (Nat → Int32) → (Nat → Int32) → (Nat → Int32) → (Nat → Int32) → (Nat → Int32) → (Nat → Int32) → Prop} {f y : Nat} {s : Int32} (hf : f < 4) (hy : y < 8)
    (hJ : J (nI (y + 1)) (tl_fill P (64 * f) (8 * (y + 1)) (tl_go P f s)) O K V OV SV F) :
    ∃ n, wY_roughen_21 post J (nI f) s (nI y) n 0 (tl_fill P (64 * f) (8 * y) (tl_go P f s)) O K V OV SV F := by
  refine loop_0 (fun n i Q => wY_roughen_21 post J (nI f) s (nI y) n (nI i) Q O K V OV SV F) (fun i Q => Q = tl_fill P (64 * f) (8 * y + i) (tl_go P f s)) 8 _ rfl ?_ ?_
  · intro n Q hQ
    subst hQ
    exact br_t tl_le8 (nm_r (nI_1 y) hJ)
  · intro n i Q hi hQ ih
    subst hQ
    refine br_f (nI_ge (b := 8) hi (by decide)) (nm_r (tl_pY f y i) ⟨tl_inw hf hy hi, ?_⟩)
    refine tl_st (64 * f + (8 * y + i)) rfl (by omega) (by decide) _ (tl_fillS ?_) (nm_r (nI_1 i) (ih _ rfl))
    have e : 8 * nI y + nI i + 1 = nI (8 * y + i + 1) := by
      show nI 8 * nI y + nI i + 1 = _
      rw [pk_mul, nI_add, nI_1]
    rw [nI_clamp (by omega), tl_fout (by omega), e]
    rfl
theorem tl_roughY {post : Int32 → SY → Prop} {f : Nat} {s : Int32} (hf : f < 4)
    (hp : post (tl_fill P (64 * f) 64 (tl_go P f s) (64 * f + 63)) (tl_fill P (64 * f) 64 (tl_go P f s), O, K, V, OV, SV, F)) :
    ∃ n, wY_roughen_12 post (nI f) s n 0 P O K V OV SV F := by
  refine loop_0 (fun n i Q => wY_roughen_12 post (nI f) s n (nI i) Q O K V OV SV F) (fun i Q => Q = tl_fill P (64 * f) (8 * i) (tl_go P f s)) 8 _ (tl_fill0 _ _ _).symm ?_ ?_
  · intro n Q hQ
    subst hQ
    exact br_t tl_le8 (tl_lastY (A := True) (post := fun r => post r (tl_fill P (64 * f) 64 (tl_go P f s), O, K, V, OV, SV, F)) hf hp)
  · intro n i Q hi hQ ih
    subst hQ
    exact br_f (nI_ge (b := 8) hi (by decide)) (tl_roughY1 hf hi (ih _ rfl))
end
theorem i_vc_roughen {k : Nat} {u : SX} {v : SY} (I : i_Rel k u v) (hk : k + 5 ≤ 2560) (v1 : Int32) (v2 : Int32) : wpX_roughen (fun r u' => wpY_roughen (fun r' v' => r' = r ∧ i_Rel (k + 5) u' v') v v1 v2) u v1 v2 := by
  obtain ⟨P, V, O, OV, C, K, SV, F, rfl, rfl, hP, hO, hK, hE⟩ := I
  unfold wpX_roughen wpY_roughen
  dsimp only
  rcases tl_ix 4 v1 (by decide) with b1 | ⟨f, hf, rfl⟩
  · exact tl_isF_b b1 (br_t rfl (tl_bF_b b1 (br_f (by decide) ⟨rfl, tl_rel _ hP hO hK hE⟩)))
  refine tl_isF_g hf (br_f (by decide) ?_)
  refine tl_roughX hf ?_
  refine tl_bF_g hf (br_t rfl ?_)
  refine tl_roughY hf ?_
  exact ⟨rfl, tl_rel _ (tl_pixfill hP (fun i _ => tl_and2 _)) hO hK hE⟩
