/-! the component's nested loops are the fold over 4096 structures -/
theorem sl_m16_0 {α : Type} (F H : Nat → α → α) (h1 : ∀ p, p < 16 → sl_b p 0 = 1 → ∀ q, F p q = q) (h0 : ∀ d, d < 8 → ∀ q, F (sl_mk 0 d) q = H d q) (q : α) : sl_go F 0 16 q = sl_go H 0 8 q := by
  have e0 : ∀ q, F 0 q = H 0 q := h0 0 (by decide)
  have e1 : ∀ q, F 1 q = q := h1 1 (by decide) (by decide)
  have e2 : ∀ q, F 2 q = H 1 q := h0 1 (by decide)
  have e3 : ∀ q, F 3 q = q := h1 3 (by decide) (by decide)
  have e4 : ∀ q, F 4 q = H 2 q := h0 2 (by decide)
  have e5 : ∀ q, F 5 q = q := h1 5 (by decide) (by decide)
  have e6 : ∀ q, F 6 q = H 3 q := h0 3 (by decide)
  have e7 : ∀ q, F 7 q = q := h1 7 (by decide) (by decide)
  have e8 : ∀ q, F 8 q = H 4 q := h0 4 (by decide)
  have e9 : ∀ q, F 9 q = q := h1 9 (by decide) (by decide)
  have e10 : ∀ q, F 10 q = H 5 q := h0 5 (by decide)
  have e11 : ∀ q, F 11 q = q := h1 11 (by decide) (by decide)
  have e12 : ∀ q, F 12 q = H 6 q := h0 6 (by decide)
  have e13 : ∀ q, F 13 q = q := h1 13 (by decide) (by decide)
  have e14 : ∀ q, F 14 q = H 7 q := h0 7 (by decide)
  have e15 : ∀ q, F 15 q = q := h1 15 (by decide) (by decide)
  show F 15 (F 14 (F 13 (F 12 (F 11 (F 10 (F 9 (F 8 (F 7 (F 6 (F 5 (F 4 (F 3 (F 2 (F 1 (F 0 q))))))))))))))) = H 7 (H 6 (H 5 (H 4 (H 3 (H 2 (H 1 (H 0 q)))))))
  rw [e15, e14, e13, e12, e11, e10, e9, e8, e7, e6, e5, e4, e3, e2, e1, e0]
theorem sl_m16_1 {α : Type} (F H : Nat → α → α) (h1 : ∀ p, p < 16 → sl_b p 1 = 1 → ∀ q, F p q = q) (h0 : ∀ d, d < 8 → ∀ q, F (sl_mk 1 d) q = H d q) (q : α) : sl_go F 0 16 q = sl_go H 0 8 q := by
  have e0 : ∀ q, F 0 q = H 0 q := h0 0 (by decide)
  have e1 : ∀ q, F 1 q = H 1 q := h0 1 (by decide)
  have e2 : ∀ q, F 2 q = q := h1 2 (by decide) (by decide)
  have e3 : ∀ q, F 3 q = q := h1 3 (by decide) (by decide)
  have e4 : ∀ q, F 4 q = H 2 q := h0 2 (by decide)
  have e5 : ∀ q, F 5 q = H 3 q := h0 3 (by decide)
  have e6 : ∀ q, F 6 q = q := h1 6 (by decide) (by decide)
  have e7 : ∀ q, F 7 q = q := h1 7 (by decide) (by decide)
  have e8 : ∀ q, F 8 q = H 4 q := h0 4 (by decide)
  have e9 : ∀ q, F 9 q = H 5 q := h0 5 (by decide)
  have e10 : ∀ q, F 10 q = q := h1 10 (by decide) (by decide)
  have e11 : ∀ q, F 11 q = q := h1 11 (by decide) (by decide)
  have e12 : ∀ q, F 12 q = H 6 q := h0 6 (by decide)
  have e13 : ∀ q, F 13 q = H 7 q := h0 7 (by decide)
  have e14 : ∀ q, F 14 q = q := h1 14 (by decide) (by decide)
  have e15 : ∀ q, F 15 q = q := h1 15 (by decide) (by decide)
  show F 15 (F 14 (F 13 (F 12 (F 11 (F 10 (F 9 (F 8 (F 7 (F 6 (F 5 (F 4 (F 3 (F 2 (F 1 (F 0 q))))))))))))))) = H 7 (H 6 (H 5 (H 4 (H 3 (H 2 (H 1 (H 0 q)))))))
  rw [e15, e14, e13, e12, e11, e10, e9, e8, e7, e6, e5, e4, e3, e2, e1, e0]
theorem sl_m16_2 {α : Type} (F H : Nat → α → α) (h1 : ∀ p, p < 16 → sl_b p 2 = 1 → ∀ q, F p q = q) (h0 : ∀ d, d < 8 → ∀ q, F (sl_mk 2 d) q = H d q) (q : α) : sl_go F 0 16 q = sl_go H 0 8 q := by
  have e0 : ∀ q, F 0 q = H 0 q := h0 0 (by decide)
  have e1 : ∀ q, F 1 q = H 1 q := h0 1 (by decide)
  have e2 : ∀ q, F 2 q = H 2 q := h0 2 (by decide)
  have e3 : ∀ q, F 3 q = H 3 q := h0 3 (by decide)
  have e4 : ∀ q, F 4 q = q := h1 4 (by decide) (by decide)
  have e5 : ∀ q, F 5 q = q := h1 5 (by decide) (by decide)
  have e6 : ∀ q, F 6 q = q := h1 6 (by decide) (by decide)
  have e7 : ∀ q, F 7 q = q := h1 7 (by decide) (by decide)
  have e8 : ∀ q, F 8 q = H 4 q := h0 4 (by decide)
  have e9 : ∀ q, F 9 q = H 5 q := h0 5 (by decide)
  have e10 : ∀ q, F 10 q = H 6 q := h0 6 (by decide)
  have e11 : ∀ q, F 11 q = H 7 q := h0 7 (by decide)
  have e12 : ∀ q, F 12 q = q := h1 12 (by decide) (by decide)
  have e13 : ∀ q, F 13 q = q := h1 13 (by decide) (by decide)
  have e14 : ∀ q, F 14 q = q := h1 14 (by decide) (by decide)
  have e15 : ∀ q, F 15 q = q := h1 15 (by decide) (by decide)
  show F 15 (F 14 (F 13 (F 12 (F 11 (F 10 (F 9 (F 8 (F 7 (F 6 (F 5 (F 4 (F 3 (F 2 (F 1 (F 0 q))))))))))))))) = H 7 (H 6 (H 5 (H 4 (H 3 (H 2 (H 1 (H 0 q)))))))
  rw [e15, e14, e13, e12, e11, e10, e9, e8, e7, e6, e5, e4, e3, e2, e1, e0]
theorem sl_m16_3 {α : Type} (F H : Nat → α → α) (h1 : ∀ p, p < 16 → sl_b p 3 = 1 → ∀ q, F p q = q) (h0 : ∀ d, d < 8 → ∀ q, F (sl_mk 3 d) q = H d q) (q : α) : sl_go F 0 16 q = sl_go H 0 8 q := by
  have e0 : ∀ q, F 0 q = H 0 q := h0 0 (by decide)
  have e1 : ∀ q, F 1 q = H 1 q := h0 1 (by decide)
  have e2 : ∀ q, F 2 q = H 2 q := h0 2 (by decide)
  have e3 : ∀ q, F 3 q = H 3 q := h0 3 (by decide)
  have e4 : ∀ q, F 4 q = H 4 q := h0 4 (by decide)
  have e5 : ∀ q, F 5 q = H 5 q := h0 5 (by decide)
  have e6 : ∀ q, F 6 q = H 6 q := h0 6 (by decide)
  have e7 : ∀ q, F 7 q = H 7 q := h0 7 (by decide)
  have e8 : ∀ q, F 8 q = q := h1 8 (by decide) (by decide)
  have e9 : ∀ q, F 9 q = q := h1 9 (by decide) (by decide)
  have e10 : ∀ q, F 10 q = q := h1 10 (by decide) (by decide)
  have e11 : ∀ q, F 11 q = q := h1 11 (by decide) (by decide)
  have e12 : ∀ q, F 12 q = q := h1 12 (by decide) (by decide)
  have e13 : ∀ q, F 13 q = q := h1 13 (by decide) (by decide)
  have e14 : ∀ q, F 14 q = q := h1 14 (by decide) (by decide)
  have e15 : ∀ q, F 15 q = q := h1 15 (by decide) (by decide)
  show F 15 (F 14 (F 13 (F 12 (F 11 (F 10 (F 9 (F 8 (F 7 (F 6 (F 5 (F 4 (F 3 (F 2 (F 1 (F 0 q))))))))))))))) = H 7 (H 6 (H 5 (H 4 (H 3 (H 2 (H 1 (H 0 q)))))))
  rw [e15, e14, e13, e12, e11, e10, e9, e8, e7, e6, e5, e4, e3, e2, e1, e0]
theorem sl_awO {mp : Int32} {ek : Nat → Int32} {d0 d1 d2 d3 : Nat} (h0 : d0 < 8) (h1 : d1 < 8) (h2 : d2 < 8) (h3 : d3 < 8) : sl_aw mp ek (sl_sO d0 d1 d2 d3) = (sl_nc (sl_mm (sl_sO d0 d1 d2 d3)) && (sl_ok mp ek 0 (sl_mk 0 d0) && (sl_ok mp ek 1 (sl_mk 1 d1) && (sl_ok mp ek 2 (sl_mk 2 d2) && (sl_ok mp ek 3 (sl_mk 3 d3) && true))))) := by
  obtain ⟨e0, e1, e2, e3⟩ := sl_mmO h0 h1 h2 h3
  rw [← e0, ← e1, ← e2, ← e3]
  rfl
theorem sl_axM {mp : Int32} {ek : Nat → Int32} {v d : Nat} (hv : v < 4) (hd : d < 8) : sl_ax mp ek v (sl_mk v d) = sl_ok mp ek v (sl_mk v d) := by
  unfold sl_ax
  rw [(sl_tMk v hv d hd).2.1]
  rfl
theorem sl_axO {mp : Int32} {ek : Nat → Int32} {v p : Nat} (h : sl_b p v = 1) : sl_ax mp ek v p = false := by
  unfold sl_ax
  rw [h]
  rfl
theorem sl_tlF {mp : Int32} {sc ek : Nat → Int32} {nd br : Int32} {v d0 d1 d2 p : Nat} {q : Option Nat} (h : sl_ax mp ek 3 p = false) : sl_tl mp sc ek nd br v d0 d1 d2 p q = q := if_neg (by rw [h]; exact Bool.false_ne_true)
theorem sl_E3 {mp : Int32} {sc ek : Nat → Int32} {nd br : Int32} {v d0 d1 d2 : Nat} (h0 : d0 < 8) (h1 : d1 < 8) (h2 : d2 < 8) (o0 : sl_ok mp ek 0 (sl_mk 0 d0) = true) (o1 : sl_ok mp ek 1 (sl_mk 1 d1) = true) (o2 : sl_ok mp ek 2 (sl_mk 2 d2) = true) (q : Option Nat) : sl_go (sl_tl mp sc ek nd br v d0 d1 d2) 0 16 q = sl_go (fun d3 q => sl_sp mp sc ek (sl_PX nd br v) (sl_sO d0 d1 d2 d3) q) 0 8 q := by
  refine sl_m16_3 _ _ (fun p hp hb q => sl_tlF (sl_axO hb)) (fun d hd q => ?_) q
  have ha := sl_awO (mp := mp) (ek := ek) h0 h1 h2 hd
  rw [o0, o1, o2, Bool.true_and, Bool.true_and, Bool.true_and, Bool.and_true] at ha
  cases o3 : sl_ok mp ek 3 (sl_mk 3 d)
  · rw [o3, Bool.and_false] at ha
    rw [sl_tlF ((sl_axM (by decide) hd).trans o3), sl_spA ha]
  · rw [o3, Bool.and_true] at ha
    have e : sl_un 3 (sl_mk 3 d) = d := (sl_tMk 3 (by decide) d hd).2.2
    unfold sl_tl sl_sp
    rw [if_pos ((sl_axM (by decide) hd).trans o3), e, ha]
theorem sl_E2 {mp : Int32} {sc ek : Nat → Int32} {nd br : Int32} {v d0 d1 : Nat} (h0 : d0 < 8) (h1 : d1 < 8) (o0 : sl_ok mp ek 0 (sl_mk 0 d0) = true) (o1 : sl_ok mp ek 1 (sl_mk 1 d1) = true) (q : Option Nat) : sl_go (sl_f2 mp sc ek nd br v d0 d1) 0 16 q = sl_go (fun d2 q => sl_go (fun d3 q => sl_sp mp sc ek (sl_PX nd br v) (sl_sO d0 d1 d2 d3) q) 0 8 q) 0 8 q := by
  refine sl_m16_2 _ _ (fun p hp hb q => sl_f2F (sl_axO hb)) (fun d hd q => ?_) q
  cases o2 : sl_ok mp ek 2 (sl_mk 2 d)
  · rw [sl_f2F ((sl_axM (by decide) hd).trans o2), sl_go_id]
    intro j _ hj q
    refine sl_spA ?_
    rw [sl_awO h0 h1 hd (by omega), o2]
    simp
  · rw [sl_f2T ((sl_axM (by decide) hd).trans o2), (sl_tMk 2 (by decide) d hd).2.2, sl_E3 h0 h1 hd o0 o1 o2]
theorem sl_E1 {mp : Int32} {sc ek : Nat → Int32} {nd br : Int32} {v d0 : Nat} (h0 : d0 < 8) (o0 : sl_ok mp ek 0 (sl_mk 0 d0) = true) (q : Option Nat) : sl_go (sl_f1 mp sc ek nd br v d0) 0 16 q = sl_go (fun d1 q => sl_go (fun d2 q => sl_go (fun d3 q => sl_sp mp sc ek (sl_PX nd br v) (sl_sO d0 d1 d2 d3) q) 0 8 q) 0 8 q) 0 8 q := by
  refine sl_m16_1 _ _ (fun p hp hb q => sl_f1F (sl_axO hb)) (fun d hd q => ?_) q
  cases o1 : sl_ok mp ek 1 (sl_mk 1 d)
  · rw [sl_f1F ((sl_axM (by decide) hd).trans o1), sl_go_id]
    intro i _ hi q
    refine sl_go_id _ _ _ _ ?_
    intro j _ hj q
    refine sl_spA ?_
    rw [sl_awO h0 hd (by omega) (by omega), o1]
    simp
  · rw [sl_f1T ((sl_axM (by decide) hd).trans o1), (sl_tMk 1 (by decide) d hd).2.2, sl_E2 h0 hd o0 o1]
theorem sl_E0 {mp : Int32} {sc ek : Nat → Int32} {nd br : Int32} {v : Nat} (q : Option Nat) : sl_go (sl_f0 mp sc ek nd br v) 0 16 q = sl_go (fun d0 q => sl_go (fun d1 q => sl_go (fun d2 q => sl_go (fun d3 q => sl_sp mp sc ek (sl_PX nd br v) (sl_sO d0 d1 d2 d3) q) 0 8 q) 0 8 q) 0 8 q) 0 8 q := by
  refine sl_m16_0 _ _ (fun p hp hb q => sl_f0F (sl_axO hb)) (fun d hd q => ?_) q
  cases o0 : sl_ok mp ek 0 (sl_mk 0 d)
  · rw [sl_f0F ((sl_axM (by decide) hd).trans o0), sl_go_id]
    intro l _ hl q
    refine sl_go_id _ _ _ _ ?_
    intro i _ hi q
    refine sl_go_id _ _ _ _ ?_
    intro j _ hj q
    refine sl_spA ?_
    rw [sl_awO hd (by omega) (by omega) (by omega), o0]
    simp
  · rw [sl_f0T ((sl_axM (by decide) hd).trans o0), (sl_tMk 0 (by decide) d hd).2.2, sl_E1 hd o0]
theorem sl_4096 {α : Type} (f : Nat → α → α) (q : α) : sl_go f 0 4096 q = sl_go (fun d0 q => sl_go (fun d1 q => sl_go (fun d2 q => sl_go (fun d3 q => f (sl_sO d0 d1 d2 d3) q) 0 8 q) 0 8 q) 0 8 q) 0 8 q := by
  have a := sl_go_mul f 8 512 0 q
  have b := sl_go_mul (fun j q => sl_go (fun l q => f (j * 8 + l) q) 0 8 q) 8 64 0 q
  have c := sl_go_mul (fun i q => sl_go (fun j q => sl_go (fun l q => f ((i * 8 + j) * 8 + l) q) 0 8 q) 0 8 q) 8 8 0 q
  exact a.trans (b.trans c)
theorem sl_fbX {post : Int32 → Prop} {mp nd br : Int32} {sc ek : Nat → Int32} {v : Nat} (hv : v < 4) (h : post (sl_kp (sl_MF mp sc ek (sl_PX nd br v)))) : wpX_firstBest post (mp, sc, ek) (nI v) nd br := by
  refine ⟨17, sl_L0 hv 16 0 none rfl ?_⟩
  rw [sl_E0, ← sl_4096 (sl_sp mp sc ek (sl_PX nd br v))]
  exact h
