section
variable {P V O OV C K SV F : Nat → Int32}
/-- what one frame of the slot stands for -/
def tl_gk (K : Nat → Int32) (s f : Nat) : Nat → Int32 := fun i => K (256 * s + (64 * f + i))
theorem tl_dec1 {s f y x n : Nat} (hs : s < 2) (hf : f < 4) (hy : y < 8) (hx : x < 8) (hK : tl_pix K 512) (hE : tl_enc C K SV)
    (h0 : f = 1 → ∀ i, i < 64 → O i = K (256 * s + i)) (h2 : f = 1 ∨ f = 3 → ∀ i, i < 64 → O (128 + i) = K (256 * s + (128 + i))) (hV : ∀ i, i < 12 → OV i = SV (12 * s + i)) (hn : n ≤ 64) :
    (C (256 * s + (64 * f + (8 * y + x))) + tl_pr (tl_fill O (64 * f) n (tl_gk K s f)) OV f x y) &&& 255 = tl_gk K s f (8 * y + x) := by
  have e : tl_pr (tl_fill O (64 * f) n (tl_gk K s f)) OV f x y = tl_pr (fun j => K (256 * s + j)) (fun j => SV (12 * s + j)) f x y := by
    refine tl_pr_c hx hy ?_ ?_ hV
    · intro f1 i hi
      rw [tl_fout (by omega)]
      exact h0 f1 i hi
    · intro f13 i hi
      rw [tl_fout (by omega)]
      exact h2 f13 i hi
  rw [e, hE s f y x hs hf hy hx, tl_undo]
  exact hK _ (by omega)
theorem tl_dfX1 {post : SX → Prop} {J : Int32 → (Nat → Int32) → (Nat → Int32) → (Nat → Int32) → (Nat → Int32) → (Nat → Int32) → (Nat → Int32) → (Nat → Int32) → Prop} {s f y : Nat} (hs : s < 2) (hf : f < 4) (hy : y < 8) (hK : tl_pix K 512) (hE : tl_enc C K SV)
    (h0 : f = 1 → ∀ i, i < 64 → O i = K (256 * s + i)) (h2 : f = 1 ∨ f = 3 → ∀ i, i < 64 → O (128 + i) = K (256 * s + (128 + i))) (hV : ∀ i, i < 12 → OV i = SV (12 * s + i))
    (hJ : J (nI (y + 1)) P V (tl_fill O (64 * f) (8 * (y + 1)) (tl_gk K s f)) OV C SV F) :
    ∃ n, wX_decodeFrame_11 post J (nI s) (nI f) (nI y) n 0 P V (tl_fill O (64 * f) (8 * y) (tl_gk K s f)) OV C SV F := by
  refine loop_0 (fun n i Q => wX_decodeFrame_11 post J (nI s) (nI f) (nI y) n (nI i) P V Q OV C SV F) (fun i Q => Q = tl_fill O (64 * f) (8 * y + i) (tl_gk K s f)) 8 _ rfl ?_ ?_
  · intro n Q hQ
    subst hQ
    exact br_t tl_le8 (nm_r (nI_1 y) hJ)
  · intro n i Q hi hQ ih
    subst hQ
    refine br_f (nI_ge (b := 8) hi (by decide)) (tl_plX ?_)
    refine tl_prO hf hi hy ?_
    rw [tl_X256]
    refine ⟨vp_in_nI (by omega) (by decide), ?_⟩
    rw [nI_clamp (n := 256 * s + (64 * f + (8 * y + i))) (by omega)]
    exact tl_put (by omega) (by decide) (tl_dec1 hs hf hy hi hK hE h0 h2 hV (by omega)) (nm_r (nI_1 i) (ih _ rfl))
theorem tl_dfX {post : SX → Prop} {s f : Nat} (hs : s < 2) (hf : f < 4) (hK : tl_pix K 512) (hE : tl_enc C K SV)
    (h0 : f = 1 → ∀ i, i < 64 → O i = K (256 * s + i)) (h2 : f = 1 ∨ f = 3 → ∀ i, i < 64 → O (128 + i) = K (256 * s + (128 + i))) (hV : ∀ i, i < 12 → OV i = SV (12 * s + i))
    (hp : post (P, V, tl_fill O (64 * f) 64 (tl_gk K s f), OV, C, SV, F)) :
    wpX_decodeFrame post (P, V, O, OV, C, SV, F) (nI s) (nI f) := by
  refine loop_0 (fun n i Q => wX_decodeFrame_2 post (nI s) (nI f) n (nI i) P V Q OV C SV F) (fun i Q => Q = tl_fill O (64 * f) (8 * i) (tl_gk K s f)) 8 _ (tl_fill0 _ _ _).symm ?_ ?_
  · intro n Q hQ
    subst hQ
    exact br_t tl_le8 hp
  · intro n i Q hi hQ ih
    subst hQ
    exact br_f (nI_ge (b := 8) hi (by decide)) (tl_dfX1 hs hf hi hK hE h0 h2 hV (ih _ rfl))
theorem tl_dsX {post : Int32 → SX → Prop} (hp : post (tl_sum O 256) (P, V, O, OV, C, SV, F)) : ∃ n, wX_decode_80 post P V O OV C SV F n 0 0 := by
  refine loop_0 (fun n i s => wX_decode_80 post P V O OV C SV F n s (nI i)) (fun i s => s = tl_sum O i) 256 _ rfl ?_ ?_
  · intro n s hs
    subst hs
    exact br_t (tl_le 256) hp
  · intro n i s hi hs ih
    subst hs
    refine br_f (nI_ge (b := 256) hi (by decide)) ⟨vp_in_nI hi (by decide), ?_⟩
    rw [nI_clamp (by omega)]
    exact nm_e (nm_r (nI_1 i) (ih _ rfl))
/-- the four frames in the order 0, 2, 1, 3 are the whole group -/
theorem tl_four (O K : Nat → Int32) (s : Nat) : tl_fill (tl_fill (tl_fill (tl_fill O (64 * 0) 64 (tl_gk K s 0)) (64 * 2) 64 (tl_gk K s 2)) (64 * 1) 64 (tl_gk K s 1)) (64 * 3) 64 (tl_gk K s 3) = tl_fill O 0 256 (fun i => K (256 * s + i)) := by
  funext j
  by_cases h3 : 64 * 3 ≤ j ∧ j < 64 * 3 + 64
  · rw [tl_fin h3.1 h3.2, tl_fin (by omega) (by omega)]
    exact congrArg K (by omega)
  rw [tl_fout h3]
  by_cases h1 : 64 * 1 ≤ j ∧ j < 64 * 1 + 64
  · rw [tl_fin h1.1 h1.2, tl_fin (by omega) (by omega)]
    exact congrArg K (by omega)
  rw [tl_fout h1]
  by_cases h2 : 64 * 2 ≤ j ∧ j < 64 * 2 + 64
  · rw [tl_fin h2.1 h2.2, tl_fin (by omega) (by omega)]
    exact congrArg K (by omega)
  rw [tl_fout h2]
  by_cases h0 : 64 * 0 ≤ j ∧ j < 64 * 0 + 64
  · rw [tl_fin h0.1 h0.2, tl_fin (by omega) (by omega)]
    exact congrArg K (by omega)
  rw [tl_fout h0, tl_fout (by omega)]
theorem tl_dX {post : Int32 → SX → Prop} {s : Nat} (hs : s < 2) (hK : tl_pix K 512) (hE : tl_enc C K SV)
    (hp : post (tl_sum (fun i => K (256 * s + i)) 256) (P, V, tl_fill O 0 256 (fun i => K (256 * s + i)), tl_fill OV 0 12 (fun i => SV (12 * s + i)), C, SV, F)) :
    ∃ n, wX_decode_23 post (nI s) n 0 P V O OV C SV F := by
  refine loop_0 (fun n i Q => wX_decode_23 post (nI s) n (nI i) P V O Q C SV F) (fun i Q => Q = tl_fill OV 0 i (fun i => SV (12 * s + i))) 12 _ (tl_fill0 _ _ _).symm ?_ ?_
  · intro n Q hQ
    subst hQ
    have hV : ∀ i, i < 12 → tl_fill OV 0 12 (fun i => SV (12 * s + i)) i = SV (12 * s + i) := fun i hi => by
      rw [tl_fin (by omega) (by omega)]
      rfl
    have e := tl_four O K s
    have es : tl_sum (tl_fill O 0 256 (fun i => K (256 * s + i))) 256 = tl_sum (fun i => K (256 * s + i)) 256 := tl_sum_c 256 (fun i hi => by
      rw [tl_fin (by omega) (by omega)]
      rfl)
    refine br_t (tl_le 12) ?_
    refine tl_dfX (f := 0) hs (by omega) hK hE (by omega) (by omega) hV ?_
    refine tl_dfX (f := 2) hs (by omega) hK hE (by omega) (by omega) hV ?_
    refine tl_dfX (f := 1) hs (by omega) hK hE ?_ ?_ hV ?_
    · intro _ i hi
      rw [tl_fout (by omega), tl_fin (by omega) (by omega)]
      exact congrArg K (by omega)
    · intro _ i hi
      rw [tl_fin (by omega) (by omega)]
      exact congrArg K (by omega)
    refine tl_dfX (f := 3) hs (by omega) hK hE (by omega) ?_ hV ?_
    · intro _ i hi
      rw [tl_fout (by omega), tl_fin (by omega) (by omega)]
      exact congrArg K (by omega)
    rw [e]
    refine tl_dsX ?_
    rw [es]
    exact hp
  · intro n i Q hi hQ ih
    subst hQ
    refine br_f (nI_ge (b := 12) hi (by decide)) ?_
    rw [tl_X12]
    refine ⟨vp_in_nI (by omega) (by decide), ?_⟩
    rw [nI_clamp (n := 12 * s + i) (by omega)]
    exact tl_st i rfl hi (by decide) _ (tl_fillZ rfl) (nm_r (nI_1 i) (ih _ rfl))
theorem tl_dY2 {post : Int32 → SY → Prop} {s : Nat} {r : Int32} (hs : s < 2) (hp : post r (P, O, K, V, tl_fill OV 0 12 (fun i => SV (12 * s + i)), SV, F)) :
    ∃ n, wY_decode_68 post (nI s) r n 0 P O K V OV SV F := by
  refine loop_0 (fun n i Q => wY_decode_68 post (nI s) r n (nI i) P O K V Q SV F) (fun i Q => Q = tl_fill OV 0 i (fun i => SV (12 * s + i))) 12 _ (tl_fill0 _ _ _).symm ?_ ?_
  · intro n Q hQ
    subst hQ
    exact br_t (tl_le 12) hp
  · intro n i Q hi hQ ih
    subst hQ
    refine br_f (nI_ge (b := 12) hi (by decide)) ?_
    rw [tl_Y12]
    refine ⟨vp_in_nI (by omega) (by decide), ?_⟩
    rw [nI_clamp (n := 12 * s + i) (by omega)]
    exact tl_st i rfl hi (by decide) _ (tl_fillZ rfl) (nm_r (nI_1 i) (ih _ rfl))
theorem tl_dY {post : Int32 → SY → Prop} {s : Nat} (hs : s < 2)
    (hp : post (tl_sum (fun i => K (256 * s + i)) 256) (P, tl_fill O 0 256 (fun i => K (256 * s + i)), K, V, tl_fill OV 0 12 (fun i => SV (12 * s + i)), SV, F)) :
    ∃ n, wY_decode_26 post (nI s) n 0 0 P O K V OV SV F := by
  refine loop_0 (fun n i (q : Int32 × (Nat → Int32)) => wY_decode_26 post (nI s) n q.1 (nI i) P q.2 K V OV SV F) (fun i q => q = (tl_sum (fun i => K (256 * s + i)) i, tl_fill O 0 i (fun i => K (256 * s + i)))) 256 (0, O) ?_ ?_ ?_
  · rw [tl_fill0]
    rfl
  · intro n q hq
    subst hq
    exact br_t (tl_le 256) (tl_dY2 hs hp)
  · intro n i q hi hq ih
    subst hq
    refine br_f (nI_ge (b := 256) hi (by decide)) ?_
    dsimp only
    rw [tl_Y256]
    refine ⟨vp_in_nI (by omega) (by decide), ?_⟩
    rw [nI_clamp (n := 256 * s + i) (by omega)]
    refine tl_st i rfl hi (by decide) (tl_fill O 0 (i + 1) (fun i => K (256 * s + i))) (tl_fillZ (g := fun i => K (256 * s + i)) rfl) ⟨vp_in_nI hi (by decide), ?_⟩
    refine nm_r (e' := tl_sum (fun i => K (256 * s + i)) (i + 1)) ?_ (nm_r (nI_1 i) (ih (_, _) rfl))
    rw [nI_clamp (n := i) (by omega), tl_fin (by omega) (by omega)]
    rfl
end
theorem i_vc_decode {k : Nat} {u : SX} {v : SY} (I : i_Rel k u v) (hk : k + 5 ≤ 2560) (v1 : Int32) : wpX_decode (fun r u' => wpY_decode (fun r' v' => r' = r ∧ i_Rel (k + 5) u' v') v v1) u v1 := by
  obtain ⟨P, V, O, OV, C, K, SV, F, rfl, rfl, hP, hO, hK, hE⟩ := I
  unfold wpX_decode wpY_decode
  dsimp only
  rcases tl_ix 2 v1 (by decide) with b1 | ⟨s, hs, rfl⟩
  · exact tl_isS_b b1 (br_t rfl (tl_bS_b b1 (br_f (by decide) ⟨rfl, tl_rel _ hP hO hK hE⟩)))
  have hi : vp_in (nI s) 2 := vp_in_nI hs (by decide)
  refine tl_isS_g hs (br_f (by decide) ⟨hi, ?_⟩)
  by_cases z : F (nI s).toNatClampNeg = 0
  · exact br_t z (tl_bS_g hs (br_t rfl ⟨hi, br_t z ⟨rfl, tl_rel _ hP hO hK hE⟩⟩))
  refine br_f z ?_
  refine tl_dX hs hK hE ?_
  refine tl_bS_g hs (br_t rfl ⟨hi, br_f z ?_⟩)
  refine tl_dY hs ?_
  exact ⟨rfl, tl_rel _ hP (tl_pixfill hO (fun i hi => hK _ (by omega))) hK hE⟩
