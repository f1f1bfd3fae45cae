theorem tl_rel {P V O OV C K SV F : Nat → Int32} (k : Nat) (hP : tl_pix P 256) (hO : tl_pix O 256) (hK : tl_pix K 512) (hE : tl_enc C K SV) : i_Rel k (P, V, O, OV, C, SV, F) (P, O, K, V, OV, SV, F) :=
  ⟨P, V, O, OV, C, K, SV, F, rfl, rfl, hP, hO, hK, hE⟩
theorem tl_pixupd {P : Nat → Int32} {N k : Nat} {v : Int32} (hP : tl_pix P N) (hv : v &&& 255 = v) : tl_pix (upd P k v) N := by
  intro j hj
  by_cases h : j = k
  · subst h
    rw [pk_us]
    exact hv
  · rw [pk_un h]
    exact hP j hj
theorem i_vc_put {k : Nat} {u : SX} {v : SY} (I : i_Rel k u v) (hk : k + 5 ≤ 2560) (v1 : Int32) (v2 : Int32) (v3 : Int32) (v4 : Int32) : wpX_put (fun r u' => wpY_put (fun r' v' => r' = r ∧ i_Rel (k + 5) u' v') v v1 v2 v3 v4) u v1 v2 v3 v4 := by
  obtain ⟨P, V, O, OV, C, K, SV, F, rfl, rfl, hP, hO, hK, hE⟩ := I
  unfold wpX_put wpY_put
  dsimp only
  rcases tl_ix 4 v1 (by decide) with b1 | ⟨f, hf, rfl⟩
  · exact tl_isF_b b1 (br_t rfl (tl_bF_b b1 (br_f (by decide) ⟨rfl, tl_rel _ hP hO hK hE⟩)))
  refine tl_isF_g hf (br_f (by decide) ?_)
  rcases tl_ix 8 v2 (by decide) with b2 | ⟨x, hx, rfl⟩
  · exact tl_isP_x b2 (br_t rfl (tl_bF_g hf (br_t rfl (tl_bP_b b2 (br_f (by decide) ⟨rfl, tl_rel _ hP hO hK hE⟩)))))
  rcases tl_ix 8 v3 (by decide) with b3 | ⟨y, hy, rfl⟩
  · exact tl_isP_y hx b3 (br_t rfl (tl_bF_g hf (br_t rfl (tl_bP_g hx (br_t rfl (tl_bP_b b3 (br_f (by decide) ⟨rfl, tl_rel _ hP hO hK hE⟩)))))))
  refine tl_isP_g hx hy (br_f (by decide) ?_)
  have hi : vp_in (nI (64 * f + (8 * y + x))) 256 := vp_in_nI (by omega) (by decide)
  refine tl_plX ⟨hi, nm_e ⟨hi, nm_e ?_⟩⟩
  refine tl_bF_g hf (br_t rfl (tl_bP_g hx (br_t rfl (tl_bP_g hy (br_t rfl ?_)))))
  rw [tl_pY]
  refine ⟨hi, nm_e ⟨hi, nm_e ?_⟩⟩
  exact ⟨rfl, tl_rel _ (tl_pixupd hP (tl_and2 _)) hO hK hE⟩
theorem i_vc_pixel {k : Nat} {u : SX} {v : SY} (I : i_Rel k u v) (hk : k + 5 ≤ 2560) (v1 : Int32) (v2 : Int32) (v3 : Int32) : wpX_pixel (fun r => wpY_pixel (fun r' => r' = r ∧ i_Rel (k + 5) u v) v v1 v2 v3) u v1 v2 v3 := by
  obtain ⟨P, V, O, OV, C, K, SV, F, rfl, rfl, hP, hO, hK, hE⟩ := I
  have R := tl_rel (V := V) (OV := OV) (F := F) (k + 5) hP hO hK hE
  unfold wpX_pixel wpY_pixel wpX_pixelOrRefusal__workPixels
  dsimp only
  rcases tl_ix 4 v1 (by decide) with b1 | ⟨f, hf, rfl⟩
  · exact tl_isF_b b1 (br_t rfl (tl_bF_b b1 (br_f (by decide) ⟨rfl, R⟩)))
  refine tl_isF_g hf (br_f (by decide) ?_)
  rcases tl_ix 8 v2 (by decide) with b2 | ⟨x, hx, rfl⟩
  · exact tl_isP_x b2 (br_t rfl (tl_bF_g hf (br_t rfl (tl_bP_b b2 (br_f (by decide) ⟨rfl, R⟩)))))
  rcases tl_ix 8 v3 (by decide) with b3 | ⟨y, hy, rfl⟩
  · exact tl_isP_y hx b3 (br_t rfl (tl_bF_g hf (br_t rfl (tl_bP_g hx (br_t rfl (tl_bP_b b3 (br_f (by decide) ⟨rfl, R⟩)))))))
  refine tl_isP_g hx hy (br_f (by decide) ?_)
  have hi : vp_in (nI (64 * f + (8 * y + x))) 256 := vp_in_nI (by omega) (by decide)
  refine tl_plX ⟨hi, ?_⟩
  refine tl_bF_g hf (br_t rfl (tl_bP_g hx (br_t rfl (tl_bP_g hy (br_t rfl ?_)))))
  rw [tl_pY]
  exact ⟨hi, rfl, R⟩
theorem i_vc_out {k : Nat} {u : SX} {v : SY} (I : i_Rel k u v) (hk : k + 5 ≤ 2560) (v1 : Int32) (v2 : Int32) (v3 : Int32) : wpX_out (fun r => wpY_out (fun r' => r' = r ∧ i_Rel (k + 5) u v) v v1 v2 v3) u v1 v2 v3 := by
  obtain ⟨P, V, O, OV, C, K, SV, F, rfl, rfl, hP, hO, hK, hE⟩ := I
  have R := tl_rel (V := V) (OV := OV) (F := F) (k + 5) hP hO hK hE
  unfold wpX_out wpY_out wpX_pixelOrRefusal__outPixels
  dsimp only
  rcases tl_ix 4 v1 (by decide) with b1 | ⟨f, hf, rfl⟩
  · exact tl_isF_b b1 (br_t rfl (tl_bF_b b1 (br_f (by decide) ⟨rfl, R⟩)))
  refine tl_isF_g hf (br_f (by decide) ?_)
  rcases tl_ix 8 v2 (by decide) with b2 | ⟨x, hx, rfl⟩
  · exact tl_isP_x b2 (br_t rfl (tl_bF_g hf (br_t rfl (tl_bP_b b2 (br_f (by decide) ⟨rfl, R⟩)))))
  rcases tl_ix 8 v3 (by decide) with b3 | ⟨y, hy, rfl⟩
  · exact tl_isP_y hx b3 (br_t rfl (tl_bF_g hf (br_t rfl (tl_bP_g hx (br_t rfl (tl_bP_b b3 (br_f (by decide) ⟨rfl, R⟩)))))))
  refine tl_isP_g hx hy (br_f (by decide) ?_)
  have hi : vp_in (nI (64 * f + (8 * y + x))) 256 := vp_in_nI (by omega) (by decide)
  refine tl_plX ⟨hi, ?_⟩
  refine tl_bF_g hf (br_t rfl (tl_bP_g hx (br_t rfl (tl_bP_g hy (br_t rfl ?_)))))
  rw [tl_pY]
  exact ⟨hi, rfl, R⟩
theorem i_vc_vector {k : Nat} {u : SX} {v : SY} (I : i_Rel k u v) (hk : k + 5 ≤ 2560) (v1 : Int32) (v2 : Int32) : wpX_vector (fun r => wpY_vector (fun r' => r' = r ∧ i_Rel (k + 5) u v) v v1 v2) u v1 v2 := by
  obtain ⟨P, V, O, OV, C, K, SV, F, rfl, rfl, hP, hO, hK, hE⟩ := I
  have R := tl_rel (V := V) (OV := OV) (F := F) (k + 5) hP hO hK hE
  unfold wpX_vector wpY_vector wpX_stepOrRefusal__workSteps
  dsimp only
  rcases tl_ix 3 v1 (by decide) with b1 | ⟨l, hl, rfl⟩
  · exact tl_bR_l b1 (br_f (by decide) (tl_bL_b b1 (br_f (by decide) ⟨rfl, R⟩)))
  rcases tl_ix 4 v2 (by decide) with b2 | ⟨b, hb, rfl⟩
  · exact tl_bR_b hl b2 (br_f (by decide) (tl_bL_g hl (br_t rfl (tl_bB_b b2 (br_f (by decide) ⟨rfl, R⟩)))))
  refine tl_bR_g hl hb (br_t rfl ?_)
  have hi : vp_in (nI (4 * l + b)) 12 := vp_in_nI (by omega) (by decide)
  rw [tl_X4]
  refine ⟨hi, ?_⟩
  refine tl_bL_g hl (br_t rfl (tl_bB_g hb (br_t rfl ?_)))
  rw [tl_Y4]
  exact ⟨hi, rfl, R⟩
theorem i_vc_outVector {k : Nat} {u : SX} {v : SY} (I : i_Rel k u v) (hk : k + 5 ≤ 2560) (v1 : Int32) (v2 : Int32) : wpX_outVector (fun r => wpY_outVector (fun r' => r' = r ∧ i_Rel (k + 5) u v) v v1 v2) u v1 v2 := by
  obtain ⟨P, V, O, OV, C, K, SV, F, rfl, rfl, hP, hO, hK, hE⟩ := I
  have R := tl_rel (V := V) (OV := OV) (F := F) (k + 5) hP hO hK hE
  unfold wpX_outVector wpY_outVector wpX_stepOrRefusal__outSteps
  dsimp only
  rcases tl_ix 3 v1 (by decide) with b1 | ⟨l, hl, rfl⟩
  · exact tl_bR_l b1 (br_f (by decide) (tl_bL_b b1 (br_f (by decide) ⟨rfl, R⟩)))
  rcases tl_ix 4 v2 (by decide) with b2 | ⟨b, hb, rfl⟩
  · exact tl_bR_b hl b2 (br_f (by decide) (tl_bL_g hl (br_t rfl (tl_bB_b b2 (br_f (by decide) ⟨rfl, R⟩)))))
  refine tl_bR_g hl hb (br_t rfl ?_)
  have hi : vp_in (nI (4 * l + b)) 12 := vp_in_nI (by omega) (by decide)
  rw [tl_X4]
  refine ⟨hi, ?_⟩
  refine tl_bL_g hl (br_t rfl (tl_bB_g hb (br_t rfl ?_)))
  rw [tl_Y4]
  exact ⟨hi, rfl, R⟩
theorem i_vc_setVector {k : Nat} {u : SX} {v : SY} (I : i_Rel k u v) (hk : k + 5 ≤ 2560) (v1 : Int32) (v2 : Int32) (v3 : Int32) : wpX_setVector (fun r u' => wpY_setVector (fun r' v' => r' = r ∧ i_Rel (k + 5) u' v') v v1 v2 v3) u v1 v2 v3 := by
  obtain ⟨P, V, O, OV, C, K, SV, F, rfl, rfl, hP, hO, hK, hE⟩ := I
  unfold wpX_setVector wpY_setVector
  dsimp only
  rcases tl_ix 3 v1 (by decide) with b1 | ⟨l, hl, rfl⟩
  · exact tl_vR_l b1 (br_f (by decide) (tl_bL_b b1 (br_f (by decide) ⟨rfl, tl_rel _ hP hO hK hE⟩)))
  rcases tl_ix 4 v2 (by decide) with b2 | ⟨b, hb, rfl⟩
  · exact tl_vR_b hl b2 (br_f (by decide) (tl_bL_g hl (br_t rfl (tl_bB_b b2 (br_f (by decide) ⟨rfl, tl_rel _ hP hO hK hE⟩)))))
  rcases tl_ix 25 v3 (by decide) with b3 | ⟨s, hs, rfl⟩
  · exact tl_vR_s hl hb b3 (br_f (by decide) (tl_bL_g hl (br_t rfl (tl_bB_g hb (br_t rfl (tl_bT_b b3 (br_f (by decide) ⟨rfl, tl_rel _ hP hO hK hE⟩)))))))
  have hi : vp_in (nI (4 * l + b)) 12 := vp_in_nI (by omega) (by decide)
  refine tl_vR_g hl hb hs (br_t rfl (nm_r (tl_X4 l b) ⟨hi, nm_e ⟨hi, nm_e ?_⟩⟩))
  refine tl_bL_g hl (br_t rfl (tl_bB_g hb (br_t rfl (tl_bT_g hs (br_t rfl ?_)))))
  rw [tl_Y4]
  exact ⟨hi, nm_e ⟨hi, nm_e ⟨rfl, tl_rel _ hP hO hK hE⟩⟩⟩
theorem i_vc_erase {k : Nat} {u : SX} {v : SY} (I : i_Rel k u v) (hk : k + 5 ≤ 2560) (v1 : Int32) : wpX_erase (fun r u' => wpY_erase (fun r' v' => r' = r ∧ i_Rel (k + 5) u' v') v v1) u v1 := by
  obtain ⟨P, V, O, OV, C, K, SV, F, rfl, rfl, hP, hO, hK, hE⟩ := I
  unfold wpX_erase wpY_erase
  dsimp only
  rcases tl_ix 2 v1 (by decide) with b1 | ⟨s, hs, rfl⟩
  · exact tl_isS_b b1 (br_t rfl (tl_bS_b b1 (br_f (by decide) ⟨rfl, tl_rel _ hP hO hK hE⟩)))
  have hi : vp_in (nI s) 2 := vp_in_nI hs (by decide)
  refine tl_isS_g hs (br_f (by decide) ⟨hi, ?_⟩)
  by_cases z : F (nI s).toNatClampNeg = 0
  · exact br_t z ⟨hi, nm_e (tl_bS_g hs (br_t rfl ⟨hi, br_t z ⟨hi, nm_e ⟨rfl, tl_rel _ hP hO hK hE⟩⟩⟩))⟩
  · exact br_f z ⟨hi, nm_e (tl_bS_g hs (br_t rfl ⟨hi, br_f z ⟨hi, nm_e ⟨rfl, tl_rel _ hP hO hK hE⟩⟩⟩))⟩
theorem i_vc_filled {k : Nat} {u : SX} {v : SY} (I : i_Rel k u v) (hk : k + 5 ≤ 2560) (v1 : Int32) : wpX_filled (fun r => wpY_filled (fun r' => r' = r ∧ i_Rel (k + 5) u v) v v1) u v1 := by
  obtain ⟨P, V, O, OV, C, K, SV, F, rfl, rfl, hP, hO, hK, hE⟩ := I
  have R := tl_rel (V := V) (OV := OV) (F := F) (k + 5) hP hO hK hE
  unfold wpX_filled wpY_filled
  dsimp only
  rcases tl_ix 2 v1 (by decide) with b1 | ⟨s, hs, rfl⟩
  · exact tl_isS_b b1 (br_t rfl (tl_bS_b b1 (br_f (by decide) ⟨rfl, R⟩)))
  have hi : vp_in (nI s) 2 := vp_in_nI hs (by decide)
  refine tl_isS_g hs (br_f (by decide) ⟨hi, ?_⟩)
  by_cases z : F (nI s).toNatClampNeg = 0
  · exact br_t z (tl_bS_g hs (br_t rfl ⟨hi, br_t z ⟨rfl, R⟩⟩))
  · exact br_f z (tl_bS_g hs (br_t rfl ⟨hi, br_f z ⟨rfl, R⟩⟩))
