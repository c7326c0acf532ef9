/-! orders, the owed statement -/
theorem i_vc_orders {k : Nat} {u : SX} {v : SY} (I : i_Rel k u v) (hk : k + 4 ≤ 2048) : wpX_orders (fun r => wpY_orders (fun r' v' => r' = r ∧ i_Rel (k + 4) u v') v) u := by
  obtain ⟨mp, sX, ek, kn, mo, fi, sY, c, rfl, rfl, hT, hc, hb, hk2⟩ := I
  unfold wpX_orders wpY_orders
  dsimp only
  refine sl_fb0 ?_
  have hR := fun kn' => sl_relU (k := k + 4) (mp := mp) (kn := kn') (sX := sX) (sY := sY) (ek := ek) (c := c) hT hc hb rfl rfl
  have hW := fun post h => sl_wkY (post := post) hT hc hk2 h
  have hm := (sl_MFp mp sX ek (fun _ => true)).2
  generalize sl_MF mp sX ek (fun _ => true) = q at *
  cases q with
  | none => exact br_t rfl (hW _ (fun kn' h' => br_t rfl ⟨rfl, hR kn'⟩))
  | some s =>
    have hg : ∀ t, t < 4096 → sl_aw mp ek t = true → sl_wo sX t ≤ sl_wo sX s := fun t h1 h2 => hm t h1 rfl h2
    have key := sl_cnt _ _ (fun t h1 h2 => sl_yx (mp := mp) (ek := ek) hb hg (sl_woNN hb s) t h1 h2)
    refine br_f (sl_pkN s) (sl_woX ⟨5, sl_o26 4 0 0 rfl ?_⟩)
    refine hW _ (fun kn' h' => br_f (sl_woNN hb s) ⟨257, sl_oY hT hc 256 0 0 rfl ⟨?_, hR kn'⟩⟩)
    rw [sl_xN, ← key]
    rfl
