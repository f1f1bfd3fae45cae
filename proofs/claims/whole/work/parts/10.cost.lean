/-! the cost of a step -/
def tl_csN (P : Nat → Int32) (p q : Nat) (dx dy : Int32) (left top : Nat) : Nat → Int32
  | 0 => 0
  | n + 1 => tl_csN P p q dx dy left top n + tl_sz (P (64 * p + (8 * (top + n / 4) + (left + n % 4))) - tl_at P q (nI (left + n % 4) + dx) (nI (top + n / 4) + dy))
theorem tl_csS {P : Nat → Int32} {p q : Nat} {dx dy : Int32} {left top i j : Nat} (hj : j < 4) : tl_csN P p q dx dy left top (4 * i + j) + tl_sz (P (64 * p + (8 * (top + i) + (left + j))) - tl_at P q (nI (left + j) + dx) (nI (top + i) + dy)) = tl_csN P p q dx dy left top (4 * i + (j + 1)) := by
  show _ = tl_csN P p q dx dy left top (4 * i + j) + tl_sz (P (64 * p + (8 * (top + (4 * i + j) / 4) + (left + (4 * i + j) % 4))) - tl_at P q (nI (left + (4 * i + j) % 4) + dx) (nI (top + (4 * i + j) / 4) + dy))
  rw [show (4 * i + j) / 4 = i from by omega, show (4 * i + j) % 4 = j from by omega]
def tl_cost (P : Nat → Int32) (l b s : Nat) : Int32 := tl_csN P (tl_pf l) (tl_sf l) (nI (s / 5) - 2) (nI (s % 5) - 2) (4 * (b % 2)) (4 * (b / 2)) 16
theorem tl_d5 {s : Nat} (h : s < 25) : nI s / 5 = nI (s / 5) := pk_div (d := 5) (by omega) (by decide) (by decide)
theorem tl_r5 {s : Nat} (h : s < 25) : nI s - nI s / 5 * 5 = nI (s % 5) := pk_rem (d := 5) (by omega) (by decide) (by decide)
theorem tl_left {b : Nat} (h : b < 4) : 4 * (nI b - nI b / 2 * 2) = nI (4 * (b % 2)) := by
  have e : nI b - nI b / 2 * 2 = nI (b % 2) := pk_rem (d := 2) (by omega) (by decide) (by decide)
  rw [e]
  exact pk_mul 4 _
theorem tl_top {b : Nat} (h : b < 4) : 4 * (nI b / 2) = nI (4 * (b / 2)) := by
  have e : nI b / 2 = nI (b / 2) := pk_div (d := 2) (by omega) (by decide) (by decide)
  rw [e]
  exact pk_mul 4 _
section
variable {P V O OV C K SV F : Nat → Int32}
theorem tl_coX1 {post : Int32 → Prop} {J : Int32 → Int32 → Prop} {p q left top i : Nat} {dx dy : Int32} (hp : p < 4) (hq : q < 4) (hl : left + 4 ≤ 8) (ht : top + 4 ≤ 8) (hi : i < 4)
    (hJ : J (tl_csN P p q dx dy left top (4 * (i + 1))) (nI (top + (i + 1)))) :
    ∃ n, wX_costOf_58 post J (nI p) (nI q) dx dy (nI left) (nI top) (nI (top + i)) P V O OV C SV F n (tl_csN P p q dx dy left top (4 * i)) (nI left) := by
  refine loop_0 (fun n j s => wX_costOf_58 post J (nI p) (nI q) dx dy (nI left) (nI top) (nI (top + i)) P V O OV C SV F n s (nI (left + j))) (fun j s => s = tl_csN P p q dx dy left top (4 * i + j)) 4 _ rfl ?_ ?_
  · intro n s hs
    subst hs
    exact pk_le (left + 4) (left + 4) (fun _ => nm_r (nI_1 (top + i)) hJ) (fun h => by omega) (hx := nI_add left 4)
  · intro n j s hj hs ih
    subst hs
    refine pk_le (left + 4) (left + j) (fun h => by omega) (fun _ => ?_) (hx := nI_add left 4)
    refine tl_plX (tl_neW hq ⟨vp_in_nI (by omega) (by decide), tl_szX ?_⟩)
    rw [nI_clamp (by omega)]
    exact nm_r (tl_csS hj) (nm_r (nI_1 (left + j)) (ih _ rfl))
theorem tl_coX2 {post : Int32 → Prop} {p q left top : Nat} {dx dy : Int32} (hp : p < 4) (hq : q < 4) (hl : left + 4 ≤ 8) (ht : top + 4 ≤ 8)
    (hP : post (tl_csN P p q dx dy left top 16)) :
    ∃ n, wX_costOf_45 post (nI p) (nI q) dx dy (nI left) (nI top) P V O OV C SV F n 0 (nI top) := by
  refine loop_0 (fun n i s => wX_costOf_45 post (nI p) (nI q) dx dy (nI left) (nI top) P V O OV C SV F n s (nI (top + i))) (fun i s => s = tl_csN P p q dx dy left top (4 * i)) 4 _ rfl ?_ ?_
  · intro n s hs
    subst hs
    exact pk_le (top + 4) (top + 4) (fun _ => hP) (fun h => by omega) (hx := nI_add top 4)
  · intro n i s hi hs ih
    subst hs
    refine pk_le (top + 4) (top + i) (fun h => by omega) (fun _ => ?_) (hx := nI_add top 4)
    exact tl_coX1 hp hq hl ht hi (ih _ rfl)
theorem tl_coX {post : Int32 → Prop} {l b s : Nat} (hl : l < 3) (hb : b < 4) (hs : s < 25) (hP : post (tl_cost P l b s)) : wpX_costOf post (P, V, O, OV, C, SV, F) (nI l) (nI b) (nI s) := by
  unfold wpX_costOf wpX_stepX wpX_stepY
  dsimp only
  refine tl_pfX hl (tl_sfX hl ⟨by decide, by decide, by decide, nm_r (tl_left hb) ⟨by decide, nm_r (tl_top hb) ?_⟩⟩)
  rw [tl_r5 hs, tl_d5 hs]
  exact tl_coX2 (tl_pf4 l) (tl_sf4 l) (by omega) (by omega) hP
theorem tl_coY1 {post : Int32 → Prop} {J : Int32 → Int32 → Prop} {p q left top i : Nat} {dx dy : Int32} (hp : p < 4) (hq : q < 4) (hl : left + 4 ≤ 8) (ht : top + 4 ≤ 8) (hi : i < 4)
    (hJ : J (tl_csN P p q dx dy left top (4 * (i + 1))) (nI (top + (i + 1)))) :
    ∃ n, wY_costOf_48 post J dx dy (nI left) (nI top) (nI p) (nI q) (nI (top + i)) P O K V OV SV F n (tl_csN P p q dx dy left top (4 * i)) (nI left) := by
  refine loop_0 (fun n j s => wY_costOf_48 post J dx dy (nI left) (nI top) (nI p) (nI q) (nI (top + i)) P O K V OV SV F n s (nI (left + j))) (fun j s => s = tl_csN P p q dx dy left top (4 * i + j)) 4 _ rfl ?_ ?_
  · intro n s hs
    subst hs
    exact pk_le (left + 4) (left + 4) (fun _ => nm_r (nI_1 (top + i)) hJ) (fun h => by omega) (hx := nI_add left 4)
  · intro n j s hj hs ih
    subst hs
    refine pk_le (left + 4) (left + j) (fun h => by omega) (fun _ => ?_) (hx := nI_add left 4)
    refine tl_atY hp ?_
    refine tl_atY hq (tl_szY ?_)
    have e : tl_at P p (nI (left + j)) (nI (top + i)) = P (64 * p + (8 * (top + i) + (left + j))) := by
      unfold tl_at
      rw [tl_cli (by omega), tl_cli (by omega)]
    rw [e]
    exact nm_r (tl_csS hj) (nm_r (nI_1 (left + j)) (ih _ rfl))
theorem tl_coY2 {post : Int32 → Prop} {p q left top : Nat} {dx dy : Int32} (hp : p < 4) (hq : q < 4) (hl : left + 4 ≤ 8) (ht : top + 4 ≤ 8)
    (hP : post (tl_csN P p q dx dy left top 16)) :
    ∃ n, wY_costOf_35 post dx dy (nI left) (nI top) (nI p) (nI q) P O K V OV SV F n 0 (nI top) := by
  refine loop_0 (fun n i s => wY_costOf_35 post dx dy (nI left) (nI top) (nI p) (nI q) P O K V OV SV F n s (nI (top + i))) (fun i s => s = tl_csN P p q dx dy left top (4 * i)) 4 _ rfl ?_ ?_
  · intro n s hs
    subst hs
    exact pk_le (top + 4) (top + 4) (fun _ => hP) (fun h => by omega) (hx := nI_add top 4)
  · intro n i s hi hs ih
    subst hs
    refine pk_le (top + 4) (top + i) (fun h => by omega) (fun _ => ?_) (hx := nI_add top 4)
    exact tl_coY1 hp hq hl ht hi (ih _ rfl)
theorem tl_coY {post : Int32 → Prop} {l b s : Nat} (hl : l < 3) (hb : b < 4) (hs : s < 25) (hP : post (tl_cost P l b s)) : wpY_cost post (P, O, K, V, OV, SV, F) (nI l) (nI b) (nI s) := by
  unfold wpY_cost wpY_costOf
  dsimp only
  refine tl_bL_g hl (br_t rfl (tl_bB_g hb (br_t rfl (tl_bT_g hs (br_t rfl ⟨by decide, by decide, by decide, nm_r (tl_left hb) ⟨by decide, nm_r (tl_top hb) ?_⟩⟩)))))
  refine tl_pfY hl (tl_sfY hl ?_)
  rw [tl_r5 hs, tl_d5 hs]
  exact tl_coY2 (tl_pf4 l) (tl_sf4 l) (by omega) (by omega) hP
end
theorem i_vc_cost {k : Nat} {u : SX} {v : SY} (I : i_Rel k u v) (hk : k + 5 ≤ 2560) (v1 : Int32) (v2 : Int32) (v3 : Int32) : wpX_cost (fun r => wpY_cost (fun r' => r' = r ∧ i_Rel (k + 5) u v) v v1 v2 v3) u v1 v2 v3 := by
  obtain ⟨P, V, O, OV, C, K, SV, F, rfl, rfl, hP, hO, hK, hE⟩ := I
  have R := tl_rel (V := V) (OV := OV) (F := F) (k + 5) hP hO hK hE
  unfold wpX_cost
  dsimp only
  rcases tl_ix 3 v1 (by decide) with b1 | ⟨l, hl, rfl⟩
  · refine tl_vR_l b1 (br_f (by decide) ?_)
    unfold wpY_cost
    exact tl_bL_b b1 (br_f (by decide) ⟨rfl, R⟩)
  rcases tl_ix 4 v2 (by decide) with b2 | ⟨b, hb, rfl⟩
  · refine tl_vR_b hl b2 (br_f (by decide) ?_)
    unfold wpY_cost
    exact tl_bL_g hl (br_t rfl (tl_bB_b b2 (br_f (by decide) ⟨rfl, R⟩)))
  rcases tl_ix 25 v3 (by decide) with b3 | ⟨s, hs, rfl⟩
  · refine tl_vR_s hl hb b3 (br_f (by decide) ?_)
    unfold wpY_cost
    exact tl_bL_g hl (br_t rfl (tl_bB_g hb (br_t rfl (tl_bT_b b3 (br_f (by decide) ⟨rfl, R⟩)))))
  refine tl_vR_g hl hb hs (br_t rfl ?_)
  refine tl_coX hl hb hs ?_
  exact tl_coY hl hb hs ⟨rfl, R⟩
