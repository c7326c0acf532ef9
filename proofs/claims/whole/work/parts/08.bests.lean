/-! best, parents, bestWith, bestWithout, edges -/
theorem sl_tF0 : ∀ p, p < 16 → sl_ft 0 0 (nI p) = true := by decide +kernel
theorem sl_tF1 : ∀ u, u < 4 → ∀ p, p < 16 → sl_ft ((1 : Int32) <<< (nI u &&& 31)) 0 (nI p) = (sl_b p u == 1) := by decide +kernel
theorem sl_tF2 : ∀ u, u < 4 → ∀ p, p < 16 → sl_ft 0 ((1 : Int32) <<< (nI u &&& 31)) (nI p) = (sl_b p u == 0) := by decide +kernel
theorem sl_P0 : sl_PX 0 0 0 = (fun _ => true) := funext fun s => sl_tF0 _ (sl_mm16 (by decide))
theorem sl_P1 {u v : Nat} (hu : u < 4) (hv : v < 4) : sl_PX ((1 : Int32) <<< (nI u &&& 31)) 0 v = (fun s => sl_b (sl_mm s v) u == 1) := funext fun s => sl_tF1 u hu _ (sl_mm16 hv)
theorem sl_P2 {u v : Nat} (hu : u < 4) (hv : v < 4) : sl_PX 0 ((1 : Int32) <<< (nI u &&& 31)) v = (fun s => sl_b (sl_mm s v) u == 0) := funext fun s => sl_tF2 u hu _ (sl_mm16 hv)
theorem sl_fb0 {post : Int32 → Prop} {mp : Int32} {sc ek : Nat → Int32} (h : post (sl_kp (sl_MF mp sc ek (fun _ => true)))) : wpX_firstBest post (mp, sc, ek) 0 0 0 :=
  sl_fbX (v := 0) (by decide) (by rw [sl_P0]; exact h)
theorem i_vc_best {k : Nat} {u : SX} {v : SY} (I : i_Rel k u v) (hk : k + 4 ≤ 2048) : wpX_best (fun r => wpY_best (fun r' v' => r' = r ∧ i_Rel (k + 4) u v') v) u := by
  obtain ⟨mp, sX, ek, kn, mo, fi, sY, c, rfl, rfl, hT, hc, hb, hk2⟩ := I
  unfold wpX_best wpY_best
  dsimp only
  exact sl_fb0 (sl_woQ (sl_wkY hT hc hk2 (fun kn' h' => ⟨rfl, sl_relU hT hc hb rfl rfl⟩)))
theorem i_vc_parents {k : Nat} {u : SX} {v : SY} (I : i_Rel k u v) (hk : k + 4 ≤ 2048) (v1 : Int32) : wpX_parents (fun r => wpY_parents (fun r' v' => r' = r ∧ i_Rel (k + 4) u v') v v1) u v1 := by
  have same := i_up I
  obtain ⟨mp, sX, ek, kn, mo, fi, sY, c, rfl, rfl, hT, hc, hb, hk2⟩ := I
  unfold wpX_parents wpY_parents
  dsimp only
  rcases sl_ixv (x := v1) with h | ⟨v, hv, rfl⟩
  · exact sl_ivF h (br_t rfl (sl_bdF h (br_f (by decide) ⟨rfl, same⟩)))
  · refine sl_ivT hv (br_f (by decide) (sl_fb0 ?_))
    have hR := fun kn' => sl_relU (k := k + 4) (mp := mp) (kn := kn') (sX := sX) (sY := sY) (ek := ek) (c := c) hT hc hb rfl rfl
    have hW := fun post h => sl_wkY (post := post) hT hc hk2 h
    have hp := (sl_MFp mp sX ek (fun _ => true)).1
    generalize sl_MF mp sX ek (fun _ => true) = q at *
    cases q with
    | none => exact br_t rfl (sl_bdT hv (br_t rfl (hW _ (fun kn' h' => br_t rfl ⟨rfl, hR kn'⟩))))
    | some s =>
      refine br_f (sl_pkN s) ?_
      unfold wpX_parentsIn
      dsimp only [sl_kp]
      rw [sl_pIs hv]
      exact sl_bdT hv (br_t rfl (hW _ (fun kn' h' => br_f (sl_woNN hb s) (sl_parO (hp s rfl).1 hv ⟨rfl, hR kn'⟩))))
theorem sl_bbY {post : Int32 → Prop} {l kn m0 f : Int32} {sX a b c : Nat → Int32} {u v w : Nat} (hT : sl_sT sX a) (hc : sl_nT c) (hu : u < 4) (hv : v < 4) (hw2 : w < 2) (h : post (sl_wq sX (sl_MF l sX b (fun s => sl_b (sl_mm s v) u == w)))) : wpY_bestBy post (l, kn, m0, f, a, b, c) (nI u) (nI v) (nI w) := by
  unfold sl_MF at h
  exact ⟨4097, sl_byL hT hc hu hv hw2 4096 0 none rfl h⟩
theorem i_vc_bestWith {k : Nat} {u : SX} {v : SY} (I : i_Rel k u v) (hk : k + 4 ≤ 2048) (v1 : Int32) (v2 : Int32) : wpX_bestWith (fun r => wpY_bestWith (fun r' => r' = r ∧ i_Rel (k + 4) u v) v v1 v2) u v1 v2 := by
  have same := i_up I
  obtain ⟨mp, sX, ek, kn, mo, fi, sY, c, rfl, rfl, hT, hc, hb, hk2⟩ := I
  unfold wpX_bestWith wpY_bestWith
  dsimp only
  rcases sl_ixv (x := v1) with h | ⟨a, ha, rfl⟩
  · exact sl_ipU h (br_t rfl (sl_bdF h (br_f (by decide) ⟨rfl, same⟩)))
  · rcases sl_ixv (x := v2) with h | ⟨b, hb4, rfl⟩
    · exact sl_ipV ha h (br_t rfl (sl_bdT ha (br_t rfl (sl_bdF h (br_f (by decide) ⟨rfl, same⟩)))))
    · by_cases he : nI a = nI b
      · exact sl_ipE ha hb4 he (br_t rfl (sl_bdT ha (br_t rfl (sl_bdT hb4 (br_t rfl (br_t he ⟨rfl, same⟩))))))
      · refine sl_ipT ha hb4 he (br_f (by decide) (sl_fbX hb4 ?_))
        rw [sl_P1 ha hb4]
        exact sl_woQ (sl_bdT ha (br_t rfl (sl_bdT hb4 (br_t rfl (br_f he (sl_bbY (w := 1) hT hc ha hb4 (by decide) ⟨rfl, same⟩))))))
theorem i_vc_bestWithout {k : Nat} {u : SX} {v : SY} (I : i_Rel k u v) (hk : k + 4 ≤ 2048) (v1 : Int32) (v2 : Int32) : wpX_bestWithout (fun r => wpY_bestWithout (fun r' => r' = r ∧ i_Rel (k + 4) u v) v v1 v2) u v1 v2 := by
  have same := i_up I
  obtain ⟨mp, sX, ek, kn, mo, fi, sY, c, rfl, rfl, hT, hc, hb, hk2⟩ := I
  unfold wpX_bestWithout wpY_bestWithout
  dsimp only
  rcases sl_ixv (x := v1) with h | ⟨a, ha, rfl⟩
  · exact sl_ipU h (br_t rfl (sl_bdF h (br_f (by decide) ⟨rfl, same⟩)))
  · rcases sl_ixv (x := v2) with h | ⟨b, hb4, rfl⟩
    · exact sl_ipV ha h (br_t rfl (sl_bdT ha (br_t rfl (sl_bdF h (br_f (by decide) ⟨rfl, same⟩)))))
    · by_cases he : nI a = nI b
      · exact sl_ipE ha hb4 he (br_t rfl (sl_bdT ha (br_t rfl (sl_bdT hb4 (br_t rfl (br_t he ⟨rfl, same⟩))))))
      · refine sl_ipT ha hb4 he (br_f (by decide) (sl_fbX hb4 ?_))
        rw [sl_P2 ha hb4]
        exact sl_woQ (sl_bdT ha (br_t rfl (sl_bdT hb4 (br_t rfl (br_f he (sl_bbY (w := 0) hT hc ha hb4 (by decide) ⟨rfl, same⟩))))))
theorem sl_egX {post : Int32 → Prop} {s v a n : Nat} {mp : Int32} {sc ek : Nat → Int32} (hv : v < 4) (h : wX_edges_20 post (nI (sl_pk s)) mp sc ek n (nI (a + sl_sz (sl_mm s v))) (nI (v + 1))) : wX_edges_20 post (nI (sl_pk s)) mp sc ek (n + 1) (nI a) (nI v) := by
  refine br_f (nI_ge (b := 4) hv (by decide)) ?_
  unfold wpX_parentsIn
  rw [sl_pIs hv]
  exact sl_size (sl_mm16 hv) (nm_r (nI_add _ _) (nm_r (nI_1 v) h))
theorem sl_egY {post : Int32 → SY → Prop} {s v x n : Nat} {l kn m0 : Int32} {a b c : Nat → Int32} (hs : s < 4096) (hv : v < 4) (h : wY_edges_20 post l kn m0 (nI s) a b c n (nI (x + sl_sz (sl_mm s v))) (nI (v + 1))) : wY_edges_20 post l kn m0 (nI s) a b c (n + 1) (nI x) (nI v) :=
  br_f (nI_ge (b := 4) hv (by decide)) (sl_parO hs hv (sl_bits (sl_mm16 hv) (nm_r (nI_add _ _) (nm_r (nI_1 v) h))))
theorem i_vc_edges {k : Nat} {u : SX} {v : SY} (I : i_Rel k u v) (hk : k + 4 ≤ 2048) : wpX_edges (fun r => wpY_edges (fun r' v' => r' = r ∧ i_Rel (k + 4) u v') v) u := by
  obtain ⟨mp, sX, ek, kn, mo, fi, sY, c, rfl, rfl, hT, hc, hb, hk2⟩ := I
  unfold wpX_edges wpY_edges
  dsimp only
  refine sl_fb0 ?_
  have hR := fun kn' => sl_relU (k := k + 4) (mp := mp) (kn := kn') (sX := sX) (sY := sY) (ek := ek) (c := c) hT hc hb rfl rfl
  have hW := fun post h => sl_wkY (post := post) hT hc hk2 h
  have hp := (sl_MFp mp sX ek (fun _ => true)).1
  generalize sl_MF mp sX ek (fun _ => true) = q at *
  cases q with
  | none => exact br_t rfl (hW _ (fun kn' h' => br_t rfl ⟨rfl, hR kn'⟩))
  | some s =>
    have h4 := (hp s rfl).1
    have t4 : (4 : Int32) ≤ nI (3 + 1) := nI_le (a := 4) (b := 4) (by decide) (by decide)
    refine br_f (sl_pkN s) ⟨5, sl_egX (a := 0) (v := 0) (by decide) (sl_egX (v := 1) (by decide) (sl_egX (v := 2) (by decide) (sl_egX (v := 3) (by decide) (br_t t4 ?_))))⟩
    refine hW _ (fun kn' h' => br_f (sl_woNN hb s) ⟨5, sl_egY (x := 0) (v := 0) h4 (by decide) (sl_egY (v := 1) h4 (by decide) (sl_egY (v := 2) h4 (by decide) (sl_egY (v := 3) h4 (by decide) (br_t t4 ⟨rfl, hR kn'⟩))))⟩)
