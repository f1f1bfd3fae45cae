/-! the linked pixel and the guess, over the working and over the shown pixels -/
theorem tl_blk {x y : Nat} (hx : x < 8) (hy : y < 8) : 2 * (nI y / 4) + nI x / 4 = nI (2 * (y / 4) + x / 4) := by
  show nI 2 * (nI y / nI 4) + nI x / nI 4 = _
  rw [pk_div (by omega) (by decide) (by decide), pk_div (by omega) (by decide) (by decide), pk_mul, nI_add]
section
variable {P V O OV C K SV F : Nat → Int32}
theorem tl_lkW {post : Int32 → Prop} {l x y : Nat} (hl : l < 3) (hx : x < 8) (hy : y < 8) (hp : post (tl_lk P V l x y)) : wpX_linkedPixel__workPixels_workSteps post (P, V, O, OV, C, SV, F) (nI l) (nI x) (nI y) := by
  refine ⟨by decide, by decide, nm_r (tl_blk hx hy) ?_⟩
  rw [tl_X4]
  refine ⟨vp_in_nI (by omega) (by decide), ?_⟩
  rw [nI_clamp (by omega)]
  refine nm_e (tl_sfX hl ⟨by decide, by decide, ?_⟩)
  exact tl_neW (tl_sf4 l) hp
theorem tl_lkO {post : Int32 → Prop} {l x y : Nat} (hl : l < 3) (hx : x < 8) (hy : y < 8) (hp : post (tl_lk O OV l x y)) : wpX_linkedPixel__outPixels_outSteps post (P, V, O, OV, C, SV, F) (nI l) (nI x) (nI y) := by
  refine ⟨by decide, by decide, nm_r (tl_blk hx hy) ?_⟩
  rw [tl_X4]
  refine ⟨vp_in_nI (by omega) (by decide), ?_⟩
  rw [nI_clamp (by omega)]
  refine nm_e (tl_sfX hl ⟨by decide, by decide, ?_⟩)
  exact tl_neO (tl_sf4 l) hp
theorem tl_prW {post : Int32 → Prop} {f x y : Nat} (hf : f < 4) (hx : x < 8) (hy : y < 8) (hp : post (tl_pr P V f x y)) : wpX_prediction__workPixels_workSteps post (P, V, O, OV, C, SV, F) (nI f) (nI x) (nI y) := by
  unfold tl_pr at hp
  by_cases h1 : f = 1
  · rw [if_pos h1] at hp
    refine br_t (congrArg nI h1) ?_
    refine tl_lkW (l := 0) (by omega) hx hy ?_
    refine tl_lkW (l := 1) (by omega) hx hy ?_
    exact ⟨by decide, hp⟩
  · rw [if_neg h1] at hp
    refine br_f (fun e => h1 ((nI_eq (b := 1) (by omega) (by decide)).mp e)) ?_
    by_cases h3 : f = 3
    · rw [if_pos h3] at hp
      refine br_t (congrArg nI h3) ?_
      exact tl_lkW (l := 2) (by omega) hx hy hp
    · rw [if_neg h3] at hp
      exact br_f (fun e => h3 ((nI_eq (b := 3) (by omega) (by decide)).mp e)) hp
theorem tl_prO {post : Int32 → Prop} {f x y : Nat} (hf : f < 4) (hx : x < 8) (hy : y < 8) (hp : post (tl_pr O OV f x y)) : wpX_prediction__outPixels_outSteps post (P, V, O, OV, C, SV, F) (nI f) (nI x) (nI y) := by
  unfold tl_pr at hp
  by_cases h1 : f = 1
  · rw [if_pos h1] at hp
    refine br_t (congrArg nI h1) ?_
    refine tl_lkO (l := 0) (by omega) hx hy ?_
    refine tl_lkO (l := 1) (by omega) hx hy ?_
    exact ⟨by decide, hp⟩
  · rw [if_neg h1] at hp
    refine br_f (fun e => h1 ((nI_eq (b := 1) (by omega) (by decide)).mp e)) ?_
    by_cases h3 : f = 3
    · rw [if_pos h3] at hp
      refine br_t (congrArg nI h3) ?_
      exact tl_lkO (l := 2) (by omega) hx hy hp
    · rw [if_neg h3] at hp
      exact br_f (fun e => h3 ((nI_eq (b := 3) (by omega) (by decide)).mp e)) hp
end
/-! one slot's code -/
def tl_enc1 (c k sv : Nat → Int32) : Prop := ∀ f y x, f < 4 → y < 8 → x < 8 → c (64 * f + (8 * y + x)) = (k (64 * f + (8 * y + x)) - tl_pr k sv f x y) &&& 255
theorem tl_enc_i {C K SV : Nat → Int32} (h : ∀ s, s < 2 → tl_enc1 (fun i => C (256 * s + i)) (fun i => K (256 * s + i)) (fun i => SV (12 * s + i))) : tl_enc C K SV := fun s f y x hs hf hy hx => h s hs f y x hf hy hx
theorem tl_enc_e {C K SV : Nat → Int32} (h : tl_enc C K SV) {s : Nat} (hs : s < 2) : tl_enc1 (fun i => C (256 * s + i)) (fun i => K (256 * s + i)) (fun i => SV (12 * s + i)) := fun f y x hf hy hx => h s f y x hs hf hy hx
theorem tl_enc_c {c k sv c' k' sv' : Nat → Int32} (h : tl_enc1 c k sv) (hc : ∀ i, i < 256 → c' i = c i) (hk : ∀ i, i < 256 → k' i = k i) (hv : ∀ i, i < 12 → sv' i = sv i) : tl_enc1 c' k' sv' := by
  intro f y x hf hy hx
  rw [hc _ (by omega), hk _ (by omega), h f y x hf hy hx]
  rw [tl_pr_c (P := k') (Q := k) hx hy (fun _ i hi => hk i (by omega)) (fun _ i hi => hk _ (by omega)) hv]
def tl_ge (P V : Nat → Int32) : Nat → Int32 := fun i => (P i - tl_pr P V (i / 64) (i % 8) (i / 8 % 8)) &&& 255
theorem tl_gev (P V : Nat → Int32) {f y x : Nat} (hy : y < 8) (hx : x < 8) : (P (64 * f + (8 * y + x)) - tl_pr P V f x y) &&& 255 = tl_ge P V (64 * f + (8 * y + x)) := by
  unfold tl_ge
  rw [show (64 * f + (8 * y + x)) / 64 = f from by omega, show (64 * f + (8 * y + x)) % 8 = x from by omega, show (64 * f + (8 * y + x)) / 8 % 8 = y from by omega]
theorem tl_enc_g (P V : Nat → Int32) : tl_enc1 (tl_ge P V) P V := fun f y x _ hy hx => (tl_gev P V hy hx).symm
