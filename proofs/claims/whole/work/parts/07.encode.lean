section
variable {P V O OV C K SV F : Nat → Int32}
theorem tl_efX1 {post : SX → Prop} {J : Int32 → (Nat → Int32) → (Nat → Int32) → (Nat → Int32) → (Nat → Int32) → (Nat → Int32) → (Nat → Int32) → (Nat → Int32) → Prop} {s f y : Nat} (hs : s < 2) (hf : f < 4) (hy : y < 8)
    (hJ : J (nI (y + 1)) P V O OV (tl_fill C (256 * s) (64 * f + 8 * (y + 1)) (tl_ge P V)) SV F) :
    ∃ n, wX_encodeFrame_11 post J (nI s) (nI f) (nI y) n 0 P V O OV (tl_fill C (256 * s) (64 * f + 8 * y) (tl_ge P V)) SV F := by
  refine loop_0 (fun n i Q => wX_encodeFrame_11 post J (nI s) (nI f) (nI y) n (nI i) P V O OV Q SV F) (fun i Q => Q = tl_fill C (256 * s) (64 * f + (8 * y + i)) (tl_ge P V)) 8 _ rfl ?_ ?_
  · intro n Q hQ
    subst hQ
    exact br_t tl_le8 (nm_r (nI_1 y) hJ)
  · intro n i Q hi hQ ih
    subst hQ
    refine br_f (nI_ge (b := 8) hi (by decide)) (tl_plX ?_)
    refine tl_prW hf hi hy ⟨tl_inw hf hy hi, ?_⟩
    rw [tl_X256, nI_clamp (n := 64 * f + (8 * y + i)) (by omega)]
    exact tl_st (256 * s + (64 * f + (8 * y + i))) rfl (by omega) (by decide) _ (tl_fillS (tl_gev P V hy hi)) (nm_r (nI_1 i) (ih _ rfl))
theorem tl_efX {post : SX → Prop} {s f : Nat} (hs : s < 2) (hf : f < 4) (hp : post (P, V, O, OV, tl_fill C (256 * s) (64 * (f + 1)) (tl_ge P V), SV, F)) :
    wpX_encodeFrame post (P, V, O, OV, tl_fill C (256 * s) (64 * f) (tl_ge P V), SV, F) (nI s) (nI f) := by
  refine loop_0 (fun n i Q => wX_encodeFrame_2 post (nI s) (nI f) n (nI i) P V O OV Q SV F) (fun i Q => Q = tl_fill C (256 * s) (64 * f + 8 * i) (tl_ge P V)) 8 _ rfl ?_ ?_
  · intro n Q hQ
    subst hQ
    exact br_t tl_le8 hp
  · intro n i Q hi hQ ih
    subst hQ
    exact br_f (nI_ge (b := 8) hi (by decide)) (tl_efX1 hs hf hi (ih _ rfl))
theorem tl_eX2 {post : Int32 → SX → Prop} {s : Nat} (hs : s < 2) (hp : post 0 (P, V, O, OV, tl_fill C (256 * s) 256 (tl_ge P V), SV, upd F s (vp_nar .boolean 1))) :
    ∃ n, wX_encode_42 post (nI s) n 0 P V O OV C SV F := by
  refine loop_0 (fun n i Q => wX_encode_42 post (nI s) n (nI i) P V O OV Q SV F) (fun i Q => Q = tl_fill C (256 * s) (64 * i) (tl_ge P V)) 4 _ (tl_fill0 _ _ _).symm ?_ ?_
  · intro n Q hQ
    subst hQ
    exact br_t (tl_le 4) (tl_st s rfl hs (by decide) _ rfl hp)
  · intro n i Q hi hQ ih
    subst hQ
    refine br_f (nI_ge (b := 4) hi (by decide)) ?_
    exact tl_efX hs hi (nm_r (nI_1 i) (ih _ rfl))
theorem tl_eX {post : Int32 → SX → Prop} {s : Nat} (hs : s < 2) (hp : post 0 (P, V, O, OV, tl_fill C (256 * s) 256 (tl_ge P V), tl_fill SV (12 * s) 12 V, upd F s (vp_nar .boolean 1))) :
    ∃ n, wX_encode_11 post (nI s) n 0 P V O OV C SV F := by
  refine loop_0 (fun n i Q => wX_encode_11 post (nI s) n (nI i) P V O OV C Q F) (fun i Q => Q = tl_fill SV (12 * s) i V) 12 _ (tl_fill0 _ _ _).symm ?_ ?_
  · intro n Q hQ
    subst hQ
    exact br_t (tl_le 12) (tl_eX2 hs hp)
  · intro n i Q hi hQ ih
    subst hQ
    exact br_f (nI_ge (b := 12) hi (by decide)) ⟨vp_in_nI hi (by decide), tl_st (12 * s + i) (tl_X12 s i) (by omega) (by decide) _ (tl_fillS (by rw [nI_clamp (by omega)])) (nm_r (nI_1 i) (ih _ rfl))⟩
theorem tl_eY2 {post : Int32 → SY → Prop} {s : Nat} (hs : s < 2) (hp : post 0 (P, O, K, V, OV, tl_fill SV (12 * s) 12 V, upd F s (vp_nar .boolean 1))) :
    ∃ n, wY_encode_45 post (nI s) n 0 P O K V OV SV F := by
  refine loop_0 (fun n i Q => wY_encode_45 post (nI s) n (nI i) P O K V OV Q F) (fun i Q => Q = tl_fill SV (12 * s) i V) 12 _ (tl_fill0 _ _ _).symm ?_ ?_
  · intro n Q hQ
    subst hQ
    exact br_t (tl_le 12) (tl_st s rfl hs (by decide) _ rfl hp)
  · intro n i Q hi hQ ih
    subst hQ
    exact br_f (nI_ge (b := 12) hi (by decide)) ⟨vp_in_nI hi (by decide), tl_st (12 * s + i) (tl_Y12 s i) (by omega) (by decide) _ (tl_fillS (by rw [nI_clamp (by omega)])) (nm_r (nI_1 i) (ih _ rfl))⟩
theorem tl_eY {post : Int32 → SY → Prop} {s : Nat} (hs : s < 2) (hp : post 0 (P, O, tl_fill K (256 * s) 256 P, V, OV, tl_fill SV (12 * s) 12 V, upd F s (vp_nar .boolean 1))) :
    ∃ n, wY_encode_12 post (nI s) n 0 P O K V OV SV F := by
  refine loop_0 (fun n i Q => wY_encode_12 post (nI s) n (nI i) P O Q V OV SV F) (fun i Q => Q = tl_fill K (256 * s) i P) 256 _ (tl_fill0 _ _ _).symm ?_ ?_
  · intro n Q hQ
    subst hQ
    exact br_t (tl_le 256) (tl_eY2 hs hp)
  · intro n i Q hi hQ ih
    subst hQ
    exact br_f (nI_ge (b := 256) hi (by decide)) ⟨vp_in_nI hi (by decide), tl_st (256 * s + i) (tl_Y256 s i) (by omega) (by decide) _ (tl_fillS (by rw [nI_clamp (by omega)])) (nm_r (nI_1 i) (ih _ rfl))⟩
theorem tl_enc_new {s : Nat} (hs : s < 2) (hE : tl_enc C K SV) : tl_enc (tl_fill C (256 * s) 256 (tl_ge P V)) (tl_fill K (256 * s) 256 P) (tl_fill SV (12 * s) 12 V) := by
  refine tl_enc_i (fun t ht => ?_)
  by_cases h : t = s
  · subst h
    exact tl_enc_c (tl_enc_g P V) (fun i hi => tl_fan i hi) (fun i hi => tl_fan i hi) (fun i hi => tl_fan i hi)
  · exact tl_enc_c (tl_enc_e hE ht) (fun i hi => tl_fout (by omega)) (fun i hi => tl_fout (by omega)) (fun i hi => tl_fout (by omega))
end
theorem i_vc_encode {k : Nat} {u : SX} {v : SY} (I : i_Rel k u v) (hk : k + 5 ≤ 2560) (v1 : Int32) : wpX_encode (fun r u' => wpY_encode (fun r' v' => r' = r ∧ i_Rel (k + 5) u' v') v v1) u v1 := by
  obtain ⟨P, V, O, OV, C, K, SV, F, rfl, rfl, hP, hO, hK, hE⟩ := I
  unfold wpX_encode wpY_encode
  dsimp only
  rcases tl_ix 2 v1 (by decide) with b1 | ⟨s, hs, rfl⟩
  · exact tl_isS_b b1 (br_t rfl (tl_bS_b b1 (br_f (by decide) ⟨rfl, tl_rel _ hP hO hK hE⟩)))
  refine tl_isS_g hs (br_f (by decide) ?_)
  refine tl_eX hs ?_
  refine tl_bS_g hs (br_t rfl ?_)
  refine tl_eY hs ?_
  exact ⟨rfl, tl_rel _ hP hO (tl_pixfill hK (fun i hi => hP i hi)) (tl_enc_new hs hE)⟩
/-! copySlot -/
section
variable {P V O OV C K SV F : Nat → Int32}
theorem tl_cX2 {post : Int32 → SX → Prop} {s o : Nat} (hs : s < 2) (ho : o < 2) (hso : o ≠ s) (hp : post 0 (P, V, O, OV, C, tl_fill SV (12 * o) 12 (fun i => SV (12 * s + i)), upd F o (vp_nar .boolean (F s)))) :
    ∃ n, wX_copySlot_54 post (nI s) (nI o) n 0 P V O OV C SV F := by
  refine loop_0 (fun n i Q => wX_copySlot_54 post (nI s) (nI o) n (nI i) P V O OV C Q F) (fun i Q => Q = tl_fill SV (12 * o) i (fun i => SV (12 * s + i))) 12 _ (tl_fill0 _ _ _).symm ?_ ?_
  · intro n Q hQ
    subst hQ
    refine br_t (tl_le 12) ⟨vp_in_nI hs (by decide), ?_⟩
    rw [nI_clamp (n := s) (by omega)]
    exact tl_st o rfl ho (by decide) _ rfl hp
  · intro n i Q hi hQ ih
    subst hQ
    refine br_f (nI_ge (b := 12) hi (by decide)) ?_
    rw [tl_X12, tl_X12]
    refine ⟨vp_in_nI (by omega) (by decide), ?_⟩
    refine tl_st (12 * o + i) rfl (by omega) (by decide) _ (tl_fillS ?_) (nm_r (nI_1 i) (ih _ rfl))
    rw [nI_clamp (by omega)]
    exact tl_fout (by omega)
theorem tl_cX {post : Int32 → SX → Prop} {s o : Nat} (hs : s < 2) (ho : o < 2) (hso : o ≠ s) (hp : post 0 (P, V, O, OV, tl_fill C (256 * o) 256 (fun i => C (256 * s + i)), tl_fill SV (12 * o) 12 (fun i => SV (12 * s + i)), upd F o (vp_nar .boolean (F s)))) :
    ∃ n, wX_copySlot_15 post (nI s) (nI o) n 0 P V O OV C SV F := by
  refine loop_0 (fun n i Q => wX_copySlot_15 post (nI s) (nI o) n (nI i) P V O OV Q SV F) (fun i Q => Q = tl_fill C (256 * o) i (fun i => C (256 * s + i))) 256 _ (tl_fill0 _ _ _).symm ?_ ?_
  · intro n Q hQ
    subst hQ
    exact br_t (tl_le 256) (tl_cX2 hs ho hso hp)
  · intro n i Q hi hQ ih
    subst hQ
    refine br_f (nI_ge (b := 256) hi (by decide)) ?_
    rw [tl_X256, tl_X256]
    refine ⟨vp_in_nI (by omega) (by decide), ?_⟩
    refine tl_st (256 * o + i) rfl (by omega) (by decide) _ (tl_fillS ?_) (nm_r (nI_1 i) (ih _ rfl))
    rw [nI_clamp (by omega)]
    exact tl_fout (by omega)
theorem tl_cY2 {post : Int32 → SY → Prop} {s o : Nat} (hs : s < 2) (ho : o < 2) (hso : o ≠ s) (hp : post 0 (P, O, K, V, OV, tl_fill SV (12 * o) 12 (fun i => SV (12 * s + i)), upd F o (vp_nar .boolean (F s)))) :
    ∃ n, wY_copySlot_55 post (nI s) (nI o) n 0 P O K V OV SV F := by
  refine loop_0 (fun n i Q => wY_copySlot_55 post (nI s) (nI o) n (nI i) P O K V OV Q F) (fun i Q => Q = tl_fill SV (12 * o) i (fun i => SV (12 * s + i))) 12 _ (tl_fill0 _ _ _).symm ?_ ?_
  · intro n Q hQ
    subst hQ
    refine br_t (tl_le 12) ⟨vp_in_nI hs (by decide), ?_⟩
    rw [nI_clamp (n := s) (by omega)]
    exact tl_st o rfl ho (by decide) _ rfl hp
  · intro n i Q hi hQ ih
    subst hQ
    refine br_f (nI_ge (b := 12) hi (by decide)) ?_
    rw [tl_Y12, tl_Y12]
    refine ⟨vp_in_nI (by omega) (by decide), ?_⟩
    refine tl_st (12 * o + i) rfl (by omega) (by decide) _ (tl_fillS ?_) (nm_r (nI_1 i) (ih _ rfl))
    rw [nI_clamp (by omega)]
    exact tl_fout (by omega)
theorem tl_cY {post : Int32 → SY → Prop} {s o : Nat} (hs : s < 2) (ho : o < 2) (hso : o ≠ s) (hp : post 0 (P, O, tl_fill K (256 * o) 256 (fun i => K (256 * s + i)), V, OV, tl_fill SV (12 * o) 12 (fun i => SV (12 * s + i)), upd F o (vp_nar .boolean (F s)))) :
    ∃ n, wY_copySlot_16 post (nI s) (nI o) n 0 P O K V OV SV F := by
  refine loop_0 (fun n i Q => wY_copySlot_16 post (nI s) (nI o) n (nI i) P O Q V OV SV F) (fun i Q => Q = tl_fill K (256 * o) i (fun i => K (256 * s + i))) 256 _ (tl_fill0 _ _ _).symm ?_ ?_
  · intro n Q hQ
    subst hQ
    exact br_t (tl_le 256) (tl_cY2 hs ho hso hp)
  · intro n i Q hi hQ ih
    subst hQ
    refine br_f (nI_ge (b := 256) hi (by decide)) ?_
    rw [tl_Y256, tl_Y256]
    refine ⟨vp_in_nI (by omega) (by decide), ?_⟩
    refine tl_st (256 * o + i) rfl (by omega) (by decide) _ (tl_fillS ?_) (nm_r (nI_1 i) (ih _ rfl))
    rw [nI_clamp (by omega)]
    exact tl_fout (by omega)
theorem tl_enc_copy {s o : Nat} (hs : s < 2) (ho : o < 2) (hso : o ≠ s) (hE : tl_enc C K SV) : tl_enc (tl_fill C (256 * o) 256 (fun i => C (256 * s + i))) (tl_fill K (256 * o) 256 (fun i => K (256 * s + i))) (tl_fill SV (12 * o) 12 (fun i => SV (12 * s + i))) := by
  refine tl_enc_i (fun t ht => ?_)
  by_cases h : t = o
  · subst h
    exact tl_enc_c (tl_enc_e hE hs) (fun i hi => tl_fan i hi) (fun i hi => tl_fan i hi) (fun i hi => tl_fan i hi)
  · exact tl_enc_c (tl_enc_e hE ht) (fun i hi => tl_fout (by omega)) (fun i hi => tl_fout (by omega)) (fun i hi => tl_fout (by omega))
end
theorem i_vc_copySlot {k : Nat} {u : SX} {v : SY} (I : i_Rel k u v) (hk : k + 5 ≤ 2560) (v1 : Int32) : wpX_copySlot (fun r u' => wpY_copySlot (fun r' v' => r' = r ∧ i_Rel (k + 5) u' v') v v1) u v1 := by
  obtain ⟨P, V, O, OV, C, K, SV, F, rfl, rfl, hP, hO, hK, hE⟩ := I
  unfold wpX_copySlot wpY_copySlot
  dsimp only
  rcases tl_ix 2 v1 (by decide) with b1 | ⟨s, hs, rfl⟩
  · exact tl_isS_b b1 (br_t rfl (tl_bS_b b1 (br_f (by decide) ⟨rfl, tl_rel _ hP hO hK hE⟩)))
  have e : 1 - nI s = nI (1 - s) := pk_sub (a := 1) (by omega)
  have ho : 1 - s < 2 := by omega
  have hso : 1 - s ≠ s := by omega
  refine tl_isS_g hs (br_f (by decide) (nm_r e ?_))
  refine tl_cX hs ho hso ?_
  refine tl_bS_g hs (br_t rfl (nm_r e ?_))
  refine tl_cY hs ho hso ?_
  exact ⟨rfl, tl_rel _ hP hO (tl_pixfill hK (fun i hi => hK _ (by omega))) (tl_enc_copy hs ho hso hE)⟩
