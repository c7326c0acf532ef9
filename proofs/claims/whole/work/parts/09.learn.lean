/-! learn -/
theorem sl_subI {a b : Nat} (ha : a < 2 ^ 30) (hb : b < 2 ^ 30) : (nI a - nI b).toInt = (a : Int) - b := by
  rw [Int32.toInt_sub, nI_toInt (by omega), nI_toInt (by omega)]
  exact Int.bmod_eq_of_le (by omega) (by omega)
theorem sl_val (cs : Int64) (y : Int64) : ∃ x, x < 16 ∧ ((cs >>> y).toInt32 &&& 15) = nI x ∧ ((cs >>> y) &&& 15).toInt32 = nI x := by
  obtain ⟨x, hx, e⟩ := pk_andE ((cs >>> y).toInt32) (m := 15) 4 (by decide)
  refine ⟨x, hx, e, ?_⟩
  rw [Int64.toInt32_and]
  exact e
theorem sl_hit {v p t : Nat} {cs : Int64} (hv : v < 4) : ∀ k j z o, j + k = 16 → z + o ≤ j → ∃ r, r ≤ 16 ∧ (∀ post : Int32 → Prop, post (nI r) → wX_hitsInSetting_9 post (nI v) (nI p) (nI t) cs (k + 1) (nI z) (nI o) (nI j)) ∧ (∀ (post : Int32 → Prop) (l kn m0 f : Int32) (a b c : Nat → Int32), post (nI r) → wY_greater_9 post cs (nI v) (nI p) (nI t) l kn m0 f a b c (k + 1) (nI z) (nI o) (nI j)) := by
  intro k
  induction k with
  | zero =>
    intro j z o hj hz
    have t16 : (16 : Int32) ≤ nI j := nI_le (a := 16) (by omega) (by omega)
    by_cases h : o ≤ z
    · refine ⟨z, by omega, fun post hp => br_t t16 (pk_le o z (fun _ => hp) (fun g => by omega)), fun post l kn m0 f a b c hp => br_t t16 (pk_le z o (fun g => ?_) (fun _ => hp))⟩
      have : z = o := by omega
      rw [← this]
      exact hp
    · exact ⟨o, by omega, fun post hp => br_t t16 (pk_le o z (fun g => by omega) (fun _ => hp)), fun post l kn m0 f a b c hp => br_t t16 (pk_le z o (fun _ => hp) (fun g => by omega))⟩
  | succ k ih =>
    intro j z o hj hz
    have hj16 : j < 16 := by omega
    have n16 : ¬ (16 : Int32) ≤ nI j := nI_ge (b := 16) hj16 (by decide)
    obtain ⟨x, hx, e1, e2⟩ := sl_val cs ((4 * nI j).toInt64 &&& 63)
    by_cases ht : (nI x &&& nI p) = nI t
    · rcases sl_b01 x v with hb | hb
      · obtain ⟨r, hr, hX, hY⟩ := ih (j + 1) (z + 1) o (by omega) (by omega)
        refine ⟨r, hr, fun post hp => br_f n16 (nm_r e1 (br_t ht (sl_con0 hx hv hb (br_t rfl (nm_r (nI_1 z) (nm_r (nI_1 j) (hX post hp))))))), fun post l kn m0 f a b c hp => br_f n16 (nm_r e2 (br_t ht (nm_r (e' := nI o) ?_ (nm_r (e' := nI (z + 1)) ?_ (nm_r (nI_1 j) (hY post l kn m0 f a b c hp))))))⟩
        · rw [sl_tBitS v hv x hx, hb, nI_add]; rfl
        · rw [sl_tBitS v hv x hx, hb, nI_1, pk_sub (by omega)]; rfl
      · obtain ⟨r, hr, hX, hY⟩ := ih (j + 1) z (o + 1) (by omega) (by omega)
        refine ⟨r, hr, fun post hp => br_f n16 (nm_r e1 (br_t ht (sl_con1 hx hv hb (br_f (by decide) (nm_r (nI_1 o) (nm_r (nI_1 j) (hX post hp))))))), fun post l kn m0 f a b c hp => br_f n16 (nm_r e2 (br_t ht (nm_r (e' := nI (o + 1)) ?_ (nm_r (e' := nI z) ?_ (nm_r (nI_1 j) (hY post l kn m0 f a b c hp))))))⟩
        · rw [sl_tBitS v hv x hx, hb, nI_add]
        · rw [sl_tBitS v hv x hx, hb, nI_1, pk_sub (by omega)]; rfl
    · obtain ⟨r, hr, hX, hY⟩ := ih (j + 1) z o (by omega) (by omega)
      exact ⟨r, hr, fun post hp => br_f n16 (nm_r e1 (br_f ht (nm_r (nI_1 j) (hX post hp)))), fun post l kn m0 f a b c hp => br_f n16 (nm_r e2 (br_f ht (nm_r (nI_1 j) (hY post l kn m0 f a b c hp))))⟩
theorem sl_hits {v p : Nat} {cs : Int64} (hv : v < 4) : ∀ k t x, t + k = 16 → x ≤ 16 * t → ∃ r, r ≤ 256 ∧ (∀ post : Int32 → Prop, post (nI r) → wX_hitsOf_6 post (nI v) (nI p) cs (k + 1) (nI x) (nI t)) ∧ (∀ (post : Int32 → Prop) (l kn m0 f : Int32) (a b c : Nat → Int32), post (nI r) → wY_hits_6 post cs (nI v) (nI p) l kn m0 f a b c (k + 1) (nI x) (nI t)) := by
  intro k
  induction k with
  | zero =>
    intro t x ht hx
    have t16 : (16 : Int32) ≤ nI t := nI_le (a := 16) (by omega) (by omega)
    exact ⟨x, by omega, fun post hp => br_t t16 hp, fun post l kn m0 f a b c hp => br_t t16 hp⟩
  | succ k ih =>
    intro t x ht hx
    have n16 : ¬ (16 : Int32) ≤ nI t := nI_ge (b := 16) (by omega) (by decide)
    by_cases hs : (nI t &&& (nI p ^^^ (-1))) = 0
    · obtain ⟨g, hg, gX, gY⟩ := sl_hit (p := p) (t := t) (cs := cs) hv 16 0 0 0 rfl (by omega)
      obtain ⟨r, hr, hX, hY⟩ := ih (t + 1) (x + g) (by omega) (by omega)
      exact ⟨r, hr, fun post hp => br_f n16 (br_t hs ⟨17, gX _ (nm_r (nI_add _ _) (nm_r (nI_1 t) (hX post hp)))⟩), fun post l kn m0 f a b c hp => br_f n16 (br_t hs ⟨17, gY _ l kn m0 f a b c (nm_r (nI_add _ _) (nm_r (nI_1 t) (hY post l kn m0 f a b c hp)))⟩)⟩
    · obtain ⟨r, hr, hX, hY⟩ := ih (t + 1) x (by omega) (by omega)
      exact ⟨r, hr, fun post hp => br_f n16 (br_f hs (nm_r (nI_1 t) (hX post hp))), fun post l kn m0 f a b c hp => br_f n16 (br_f hs (nm_r (nI_1 t) (hY post l kn m0 f a b c hp)))⟩
def sl_hG (cs : Int64) (v p r : Nat) : Prop := r ≤ 256 ∧ (∀ post : Int32 → Prop, post (nI r) → wpX_hitsOf post (nI v) (nI p) cs) ∧ (∀ (post : Int32 → Prop) (l kn m0 f : Int32) (a b c : Nat → Int32), post (nI r) → wpY_hits post (l, kn, m0, f, a, b, c) cs (nI v) (nI p))
theorem sl_hEx (cs : Int64) {v : Nat} (p : Nat) (hv : v < 4) : ∃ r, sl_hG cs v p r := by
  obtain ⟨r, hr, hX, hY⟩ := sl_hits (p := p) (cs := cs) hv 16 0 0 rfl (by omega)
  exact ⟨r, hr, fun post hp => ⟨17, hX post hp⟩, fun post l kn m0 f a b c hp => ⟨17, hY post l kn m0 f a b c hp⟩⟩
theorem sl_hAll (cs : Int64) : ∃ G : Nat → Nat → Nat, ∀ v, v < 4 → ∀ p, sl_hG cs v p (G v p) :=
  ⟨fun v p => if h : v < 4 then Classical.choose (sl_hEx cs p h) else 0, fun v hv p => by
    have := Classical.choose_spec (sl_hEx cs p hv)
    dsimp only
    rw [dif_pos hv]
    exact this⟩
def sl_lv (G : Nat → Nat → Nat) (v p : Nat) : Int32 := nI (G v p) - 3 * ((1 : Int32) <<< (nI (sl_sz p) &&& 31))
theorem sl_t3 : ∀ z, z < 5 → 3 * ((1 : Int32) <<< (nI z &&& 31)) = nI (3 * 2 ^ z) ∧ 3 * 2 ^ z ≤ 48 := by decide +kernel
theorem sl_lvB {G : Nat → Nat → Nat} {v p : Nat} (hp : p < 16) (h : G v p ≤ 256) : -1000 ≤ (sl_lv G v p).toInt ∧ (sl_lv G v p).toInt ≤ 1000 := by
  have hz := sl_tSz p hp
  obtain ⟨e, h48⟩ := sl_t3 (sl_sz p) (by omega)
  unfold sl_lv
  rw [e, sl_subI (by omega) (by omega)]
  omega
theorem sl_lnXi {post : Int32 → SX → Prop} {J : Int32 → (Nat → Int32) → (Nat → Int32) → Prop} {cs : Int64} {v : Nat} {mp : Int32} {ek : Nat → Int32} {G : Nat → Nat → Nat} (hv : v < 4) (hG : ∀ v, v < 4 → ∀ p, sl_hG cs v p (G v p)) (hJ : ∀ A, (∀ w, w < v + 1 → ∀ d, d < 8 → A (w * 16 + sl_mk w d) = sl_lv G w (sl_mk w d)) → J (nI (v + 1)) A ek) : ∀ k p A, p + k = 16 → (∀ w, w < 4 → ∀ d, d < 8 → (w < v ∨ (w = v ∧ sl_mk w d < p)) → A (w * 16 + sl_mk w d) = sl_lv G w (sl_mk w d)) → wX_learn_10 post J cs (nI v) mp (k + 1) (nI p) A ek := by
  intro k
  induction k with
  | zero =>
    intro p A hp hA
    refine br_t (nI_le (a := 16) (by omega) (by omega)) (nm_r (nI_1 v) (hJ A (fun w hw d hd => hA w (by omega) d hd ?_)))
    have := (sl_tMk w (by omega) d hd).1
    omega
  | succ k ih =>
    intro p A hp hA
    have hp16 : p < 16 := by omega
    refine br_f (nI_ge (b := 16) hp16 (by decide)) ?_
    rcases sl_b01 p v with hb | hb
    · refine sl_imT hv hp16 hb (br_f (by decide) (sl_size hp16 (nm_e ((hG v hv p).2.1 _ ⟨sl_wIn hv hp16, nm_e (nm_r (nI_1 p) (ih (p + 1) _ (by omega) ?_))⟩))))
      intro w hw d hd hc
      rw [sl_ix, nI_clamp (by omega)]
      by_cases e : w * 16 + sl_mk w d = v * 16 + p
      · have m16 := (sl_tMk w hw d hd).1
        have e1 : w = v := by omega
        have e2 : sl_mk w d = p := by omega
        rw [e, pk_us, e2, e1]
        rfl
      · rw [pk_un e]
        refine hA w hw d hd ?_
        rcases hc with hc | ⟨hc1, hc2⟩
        · exact Or.inl hc
        · refine Or.inr ⟨hc1, ?_⟩
          subst hc1
          omega
    · refine sl_imF hv hp16 hb (br_t rfl (nm_r (nI_1 p) (ih (p + 1) A (by omega) ?_)))
      intro w hw d hd hc
      refine hA w hw d hd ?_
      rcases hc with hc | ⟨hc1, hc2⟩
      · exact Or.inl hc
      · refine Or.inr ⟨hc1, ?_⟩
        subst hc1
        have := (sl_tMk w hw d hd).2.1
        by_cases e : sl_mk w d = p
        · rw [e] at this
          omega
        · omega
theorem sl_lnXo {post : Int32 → SX → Prop} {cs : Int64} {mp : Int32} {ek : Nat → Int32} {G : Nat → Nat → Nat} (hG : ∀ v, v < 4 → ∀ p, sl_hG cs v p (G v p)) (hJ : ∀ A, (∀ w, w < 4 → ∀ d, d < 8 → A (w * 16 + sl_mk w d) = sl_lv G w (sl_mk w d)) → post 0 (mp, A, ek)) : ∀ k v A, v + k = 4 → (∀ w, w < v → ∀ d, d < 8 → A (w * 16 + sl_mk w d) = sl_lv G w (sl_mk w d)) → wX_learn_2 post cs mp (k + 1) (nI v) A ek := by
  intro k
  induction k with
  | zero =>
    intro v A hv hA
    exact br_t (nI_le (a := 4) (by omega) (by omega)) (hJ A (fun w hw => hA w (by omega)))
  | succ k ih =>
    intro v A hv hA
    refine br_f (nI_ge (b := 4) (by omega) (by decide)) ⟨17, sl_lnXi (by omega) hG (fun A' h' => ih (v + 1) A' (by omega) h') 16 0 A rfl ?_⟩
    intro w hw d hd hc
    exact hA w (by omega) d hd
theorem sl_lnYi {post : Int32 → SY → Prop} {J : Int32 → (Nat → Int32) → (Nat → Int32) → (Nat → Int32) → Prop} {cs : Int64} {v : Nat} {l kn m0 f : Int32} {ek c : Nat → Int32} {G : Nat → Nat → Nat} (hv : v < 4) (hG : ∀ v, v < 4 → ∀ p, sl_hG cs v p (G v p)) (hJ : ∀ B, (∀ w, w < v + 1 → ∀ d, d < 8 → B (w * 8 + d) = sl_lv G w (sl_mk w d)) → J (nI (v + 1)) B ek c) : ∀ k p B, p + k = 8 → (∀ w, w < 4 → ∀ d, d < 8 → (w < v ∨ (w = v ∧ d < p)) → B (w * 8 + d) = sl_lv G w (sl_mk w d)) → wY_learn_10 post J cs (nI v) l kn m0 f (k + 1) (nI p) B ek c := by
  intro k
  induction k with
  | zero =>
    intro p B hp hB
    refine br_t (nI_le (a := 8) (by omega) (by omega)) (nm_r (nI_1 v) (hJ B (fun w hw d hd => hB w (by omega) d hd ?_)))
    omega
  | succ k ih =>
    intro p B hp hB
    have hp8 : p < 8 := by omega
    have hm := (sl_tMk v hv p hp8).1
    refine br_f (nI_ge (b := 8) hp8 (by decide)) (sl_mask hv hp8 (sl_bits hm ((hG v hv _).2.2 _ _ _ _ _ _ _ _ ⟨sl_yIn hv hp8, nm_e (nm_r (nI_1 p) (ih (p + 1) _ (by omega) ?_))⟩)))
    intro w hw d hd hc
    rw [sl_ix8, nI_clamp (by omega)]
    by_cases e : w * 8 + d = v * 8 + p
    · have e1 : w = v := by omega
      have e2 : d = p := by omega
      rw [e, pk_us, e2, e1]
      rfl
    · rw [pk_un e]
      exact hB w hw d hd (by omega)
theorem sl_lnYo {post : Int32 → SY → Prop} {cs : Int64} {l kn m0 f : Int32} {ek c : Nat → Int32} {G : Nat → Nat → Nat} (hG : ∀ v, v < 4 → ∀ p, sl_hG cs v p (G v p)) (hJ : ∀ B, (∀ w, w < 4 → ∀ d, d < 8 → B (w * 8 + d) = sl_lv G w (sl_mk w d)) → post 0 (l, 0, m0, f, B, ek, c)) : ∀ k v B, v + k = 4 → (∀ w, w < v → ∀ d, d < 8 → B (w * 8 + d) = sl_lv G w (sl_mk w d)) → wY_learn_2 post cs l kn m0 f (k + 1) (nI v) B ek c := by
  intro k
  induction k with
  | zero =>
    intro v B hv hB
    exact br_t (nI_le (a := 4) (by omega) (by omega)) (hJ B (fun w hw => hB w (by omega)))
  | succ k ih =>
    intro v B hv hB
    refine br_f (nI_ge (b := 4) (by omega) (by decide)) ⟨9, sl_lnYi (by omega) hG (fun B' h' => ih (v + 1) B' (by omega) h') 8 0 B rfl ?_⟩
    intro w hw d hd hc
    exact hB w (by omega) d hd
theorem i_vc_learn {k : Nat} {u : SX} {v : SY} (I : i_Rel k u v) (hk : k + 4 ≤ 2048) (a0 : Int64) : wpX_learn (fun r u' => wpY_learn (fun r' v' => r' = r ∧ i_Rel (k + 4) u' v') v a0) u a0 := by
  obtain ⟨mp, sX, ek, kn, mo, fi, sY, c, rfl, rfl, hT, hc, hb, hk2⟩ := I
  obtain ⟨G, hG⟩ := sl_hAll a0
  refine ⟨5, sl_lnXo hG (fun A hA => ?_) 4 0 sX rfl (fun w hw => absurd hw (Nat.not_lt_zero w))⟩
  refine ⟨5, sl_lnYo hG (fun B hB => ⟨rfl, ?_⟩) 4 0 sY rfl (fun w hw => absurd hw (Nat.not_lt_zero w))⟩
  refine sl_rel0 (fun w hw d hd => by rw [hA w hw d hd, hB w hw d hd]) hc (fun w hw d hd => ?_)
  rw [hA w hw d hd]
  exact sl_lvB (sl_tMk w hw d hd).1 (hG w hw _).1
