/-! orders: the mathematics -/
def sl_su (x B : Nat) : Bool := x &&& (15 - B) == 0
def sl_bq (Q : Nat → Bool) (f : Nat → Int32) (p : Nat) (g : Int32) : Int32 := if Q p = true then (if f p ≤ g then g else f p) else g
def sl_Q (mp : Int32) (ek : Nat → Int32) (v B p : Nat) : Bool := sl_su p B && sl_ax mp ek v p
def sl_bs (mp : Int32) (sc ek : Nat → Int32) (v B : Nat) : Int32 := sl_go (sl_bq (sl_Q mp ek v B) (fun p => sc (v * 16 + p))) 0 16 (-100000)
def sl_wi (mp : Int32) (sc ek : Nat → Int32) (a b c d : Nat) : Int32 :=
  if sl_bs mp sc ek a 0 = -100000 then -100000 else if sl_bs mp sc ek b (2 ^ a) = -100000 then -100000 else if sl_bs mp sc ek c (2 ^ a ||| 2 ^ b) = -100000 then -100000 else if sl_bs mp sc ek d (2 ^ a ||| 2 ^ b ||| 2 ^ c) = -100000 then -100000 else sl_bs mp sc ek a 0 + sl_bs mp sc ek b (2 ^ a) + sl_bs mp sc ek c (2 ^ a ||| 2 ^ b) + sl_bs mp sc ek d (2 ^ a ||| 2 ^ b ||| 2 ^ c)
def sl_fol (s a b c d : Nat) : Bool := (sl_mm s a == 0) && (sl_su (sl_mm s b) (2 ^ a) && (sl_su (sl_mm s c) (2 ^ a ||| 2 ^ b) && !(d == a)))
theorem sl_bsP {Q : Nat → Bool} {f : Nat → Int32} (hf : ∀ p, p < 16 → Q p = true → -1000 ≤ (f p).toInt) : (sl_go (sl_bq Q f) 0 16 (-100000) = -100000 ∧ ∀ p, p < 16 → Q p = false) ∨ ((∃ p, p < 16 ∧ Q p = true ∧ sl_go (sl_bq Q f) 0 16 (-100000) = f p) ∧ ∀ p, p < 16 → Q p = true → f p ≤ sl_go (sl_bq Q f) 0 16 (-100000)) := by
  have h := sl_go_inv (sl_bq Q f) (fun i g => (g = -100000 ∧ ∀ p, p < i → Q p = false) ∨ ((∃ p, p < i ∧ Q p = true ∧ g = f p) ∧ ∀ p, p < i → Q p = true → f p ≤ g)) 16 0 (-100000) ?_ (Or.inl ⟨rfl, fun p hp => absurd hp (Nat.not_lt_zero p)⟩)
  · rw [Nat.zero_add] at h
    exact h
  · intro j g _ hj hI
    have hj16 : j < 16 := by omega
    unfold sl_bq
    cases hq : Q j
    · rw [if_neg Bool.false_ne_true]
      rcases hI with ⟨e, h1⟩ | ⟨⟨p, hp, h1, h2⟩, h3⟩
      · refine Or.inl ⟨e, fun p hp => ?_⟩
        by_cases e : p = j
        · rw [e]; exact hq
        · exact h1 p (by omega)
      · refine Or.inr ⟨⟨p, by omega, h1, h2⟩, fun p hp hQ => ?_⟩
        by_cases e : p = j
        · rw [e, hq] at hQ; exact absurd hQ Bool.false_ne_true
        · exact h3 p (by omega) hQ
    · rw [if_pos rfl]
      by_cases hl : f j ≤ g
      · rw [if_pos hl]
        rcases hI with ⟨e, h1⟩ | ⟨⟨p, hp, h1, h2⟩, h3⟩
        · have b := hf j hj16 hq
          have := Int32.le_iff_toInt_le.mp hl
          rw [e, sl_NI] at this
          omega
        · refine Or.inr ⟨⟨p, by omega, h1, h2⟩, fun p hp hQ => ?_⟩
          by_cases e : p = j
          · rw [e]; exact hl
          · exact h3 p (by omega) hQ
      · rw [if_neg hl]
        refine Or.inr ⟨⟨j, by omega, hq, rfl⟩, fun p hp hQ => ?_⟩
        by_cases e : p = j
        · rw [e]; exact Int32.le_refl _
        · rcases hI with ⟨_, h1⟩ | ⟨_, h3⟩
          · rw [h1 p (by omega)] at hQ; exact absurd hQ Bool.false_ne_true
          · exact Int32.le_trans (h3 p (by omega) hQ) (Int32.le_of_lt (Int32.not_le.mp hl))
theorem sl_QF {mp : Int32} {ek : Nat → Int32} {v B p : Nat} (h : sl_Q mp ek v B p = true) : sl_su p B = true ∧ sl_b p v = 0 ∧ sl_ok mp ek v p = true := by
  unfold sl_Q sl_ax at h
  rw [Bool.and_eq_true, Bool.and_eq_true, beq_iff_eq] at h
  exact h
theorem sl_QT {mp : Int32} {ek : Nat → Int32} {v B p : Nat} (h1 : sl_su p B = true) (h2 : sl_b p v = 0) (h3 : sl_ok mp ek v p = true) : sl_Q mp ek v B p = true := by
  unfold sl_Q sl_ax
  rw [h1, h2, h3]
  rfl
theorem sl_bsB {mp : Int32} {sc ek : Nat → Int32} {v : Nat} (B : Nat) (hb : sl_bd sc) (hv : v < 4) : (sl_bs mp sc ek v B = -100000 ∧ ∀ p, p < 16 → sl_Q mp ek v B p = false) ∨ ((∃ p, p < 16 ∧ sl_Q mp ek v B p = true ∧ sl_bs mp sc ek v B = sc (v * 16 + p)) ∧ ∀ p, p < 16 → sl_Q mp ek v B p = true → sc (v * 16 + p) ≤ sl_bs mp sc ek v B) :=
  sl_bsP (Q := sl_Q mp ek v B) (f := fun p => sc (v * 16 + p)) (fun p hp hQ => (sl_bdm hb hv hp (sl_QF hQ).2.1).1)
def sl_dst (a b c d : Nat) : Bool := !(a == b || a == c || b == c || a == d || b == d || c == d)
theorem sl_dstT {a b c d : Nat} (h1 : ¬ a = b) (h2 : ¬ a = c) (h3 : ¬ b = c) (h4 : ¬ a = d) (h5 : ¬ b = d) (h6 : ¬ c = d) : sl_dst a b c d = true := by
  unfold sl_dst
  rw [beq_eq_false_iff_ne.mpr h1, beq_eq_false_iff_ne.mpr h2, beq_eq_false_iff_ne.mpr h3, beq_eq_false_iff_ne.mpr h4, beq_eq_false_iff_ne.mpr h5, beq_eq_false_iff_ne.mpr h6]
  rfl
def sl_inN (a b c d : Nat) : Bool := sl_al (fun pb => !(sl_su pb (2 ^ a)) || sl_al (fun pc => !(sl_su pc (2 ^ a ||| 2 ^ b)) || sl_al (fun pd => !(sl_su pd (2 ^ a ||| 2 ^ b ||| 2 ^ c)) || sl_nc (fun v => if v = a then 0 else if v = b then pb else if v = c then pc else pd)) 0 16) 0 16) 0 16
theorem sl_tInN : ∀ a, a < 4 → ∀ b, b < 4 → ∀ c, c < 4 → ∀ d, d < 4 → sl_dst a b c d = true → sl_inN a b c d = true := by decide +kernel
theorem sl_imp {x y : Bool} (h : (!x || y) = true) (hx : x = true) : y = true := by
  rw [hx] at h
  exact h
theorem sl_tNc (a : Nat) (ha : a < 4) (b : Nat) (hb : b < 4) (h1 : ¬ a = b) (c : Nat) (hc : c < 4) (h2 : ¬ a = c) (h3 : ¬ b = c) (d : Nat) (hd : d < 4) (h4 : ¬ a = d) (h5 : ¬ b = d) (h6 : ¬ c = d) (pb : Nat) (lb : pb < 16) (sb : sl_su pb (2 ^ a) = true) (pc : Nat) (lc : pc < 16) (sc : sl_su pc (2 ^ a ||| 2 ^ b) = true) (pd : Nat) (ld : pd < 16) (sd : sl_su pd (2 ^ a ||| 2 ^ b ||| 2 ^ c) = true) : sl_nc (fun v => if v = a then 0 else if v = b then pb else if v = c then pc else pd) = true := by
  have h := sl_tInN a ha b hb c hc d hd (sl_dstT h1 h2 h3 h4 h5 h6)
  unfold sl_inN at h
  have i1 := sl_imp ((sl_al_iff _ 16 0).mp h pb (by omega) (by omega)) sb
  have i2 := sl_imp ((sl_al_iff _ 16 0).mp i1 pc (by omega) (by omega)) sc
  exact sl_imp ((sl_al_iff _ 16 0).mp i2 pd (by omega) (by omega)) sd
theorem sl_tLas : ∀ a, a < 4 → ∀ b, b < 4 → ∀ c, c < 4 → ∀ d, d < 4 → sl_dst a b c d = true → sl_al (fun p => !(sl_b p d == 0) || sl_su p (2 ^ a ||| 2 ^ b ||| 2 ^ c)) 0 16 = true := by decide +kernel
theorem sl_tLast (a : Nat) (ha : a < 4) (b : Nat) (hb : b < 4) (h1 : ¬ a = b) (c : Nat) (hc : c < 4) (h2 : ¬ a = c) (h3 : ¬ b = c) (d : Nat) (hd : d < 4) (h4 : ¬ a = d) (h5 : ¬ b = d) (h6 : ¬ c = d) (p : Nat) (lp : p < 16) (hp : sl_b p d = 0) : sl_su p (2 ^ a ||| 2 ^ b ||| 2 ^ c) = true :=
  sl_imp ((sl_al_iff _ 16 0).mp (sl_tLas a ha b hb c hc d hd (sl_dstT h1 h2 h3 h4 h5 h6)) p (by omega) (by omega)) (beq_iff_eq.mpr hp)
theorem sl_tSu0 : ∀ p, p < 16 → sl_su p 0 = true → p = 0 := by decide +kernel
theorem sl_ncC {m m' : Nat → Nat} (h : ∀ v, v < 4 → m v = m' v) : sl_nc m = sl_nc m' := by
  have e : ∀ p, sl_go (sl_st m) 0 4 p = sl_go (sl_st m') 0 4 p := fun p => sl_go_congr _ _ 4 0 p (fun j _ hj q => by
    unfold sl_st
    rw [h j (by omega)])
  unfold sl_nc
  rw [sl_go_congr (fun _ p => sl_go (sl_st m) 0 4 p) (fun _ p => sl_go (sl_st m') 0 4 p) 4 0 0 (fun j _ _ q => e q)]
theorem sl_mkS {mp : Int32} {ek : Nat → Int32} (P : Nat → Nat) (h16 : ∀ v, v < 4 → P v < 16) (hcl : ∀ v, v < 4 → sl_b (P v) v = 0) (hok : ∀ v, v < 4 → sl_ok mp ek v (P v) = true) (hnc : sl_nc P = true) : ∃ s, s < 4096 ∧ (∀ v, v < 4 → sl_mm s v = P v) ∧ sl_aw mp ek s = true := by
  obtain ⟨u0, e0⟩ := sl_tUn 0 (by decide) _ (h16 0 (by decide)) (hcl 0 (by decide))
  obtain ⟨u1, e1⟩ := sl_tUn 1 (by decide) _ (h16 1 (by decide)) (hcl 1 (by decide))
  obtain ⟨u2, e2⟩ := sl_tUn 2 (by decide) _ (h16 2 (by decide)) (hcl 2 (by decide))
  obtain ⟨u3, e3⟩ := sl_tUn 3 (by decide) _ (h16 3 (by decide)) (hcl 3 (by decide))
  obtain ⟨m0, m1, m2, m3⟩ := sl_mmO u0 u1 u2 u3
  have hm : ∀ v, v < 4 → sl_mm (sl_sO (sl_un 0 (P 0)) (sl_un 1 (P 1)) (sl_un 2 (P 2)) (sl_un 3 (P 3))) v = P v :=
    fun v hv => sl_c4 (P := fun v => sl_mm (sl_sO (sl_un 0 (P 0)) (sl_un 1 (P 1)) (sl_un 2 (P 2)) (sl_un 3 (P 3))) v = P v) (m0.trans e0) (m1.trans e1) (m2.trans e2) (m3.trans e3) hv
  refine ⟨_, sl_sO4 u0 u1 u2 u3, hm, ?_⟩
  unfold sl_aw
  rw [sl_ncC hm, hnc, Bool.true_and, sl_al_iff]
  intro v _ hv
  rw [hm v (by omega)]
  exact hok v (by omega)
theorem sl_pS (f : Nat → Int) {a b c d : Nat} (ha : a < 4) (hb : b < 4) (hc : c < 4) (hd : d < 4) (h1 : ¬ a = b) (h2 : ¬ a = c) (h3 : ¬ b = c) (h4 : ¬ a = d) (h5 : ¬ b = d) (h6 : ¬ c = d) : f 0 + f 1 + f 2 + f 3 = f a + f b + f c + f d := by
  rcases (show a = 0 ∨ a = 1 ∨ a = 2 ∨ a = 3 by omega) with rfl | rfl | rfl | rfl <;>
  rcases (show b = 0 ∨ b = 1 ∨ b = 2 ∨ b = 3 by omega) with rfl | rfl | rfl | rfl <;> (try exact absurd rfl h1) <;>
  rcases (show c = 0 ∨ c = 1 ∨ c = 2 ∨ c = 3 by omega) with rfl | rfl | rfl | rfl <;> (try exact absurd rfl h2) <;> (try exact absurd rfl h3) <;>
  rcases (show d = 0 ∨ d = 1 ∨ d = 2 ∨ d = 3 by omega) with rfl | rfl | rfl | rfl <;> (try exact absurd rfl h4) <;> (try exact absurd rfl h5) <;> (try exact absurd rfl h6) <;>
  omega
theorem sl_woP {sc : Nat → Int32} (hb : sl_bd sc) (s : Nat) {a b c d : Nat} (ha : a < 4) (hb4 : b < 4) (hc : c < 4) (hd : d < 4) (h1 : ¬ a = b) (h2 : ¬ a = c) (h3 : ¬ b = c) (h4 : ¬ a = d) (h5 : ¬ b = d) (h6 : ¬ c = d) : (sl_wo sc s).toInt = (sc (a * 16 + sl_mm s a)).toInt + (sc (b * 16 + sl_mm s b)).toInt + (sc (c * 16 + sl_mm s c)).toInt + (sc (d * 16 + sl_mm s d)).toInt :=
  (sl_woI hb s).trans (sl_pS (fun v => (sc (v * 16 + sl_mm s v)).toInt) ha hb4 hc hd h1 h2 h3 h4 h5 h6)
/-- from four chosen masks, each within what stands before it: the structure -/
theorem sl_put {mp : Int32} {sc ek : Nat → Int32} (hbd : sl_bd sc) {a b c d pa pb pc pd : Nat} (ha : a < 4) (hb4 : b < 4) (hc : c < 4) (hd : d < 4) (h1 : ¬ a = b) (h2 : ¬ a = c) (h3 : ¬ b = c) (h4 : ¬ a = d) (h5 : ¬ b = d) (h6 : ¬ c = d) (la : pa < 16) (lb : pb < 16) (lc : pc < 16) (ld : pd < 16) (qa : sl_Q mp ek a 0 pa = true) (qb : sl_Q mp ek b (2 ^ a) pb = true) (qc : sl_Q mp ek c (2 ^ a ||| 2 ^ b) pc = true) (qd : sl_Q mp ek d (2 ^ a ||| 2 ^ b ||| 2 ^ c) pd = true) : ∃ s, s < 4096 ∧ sl_aw mp ek s = true ∧ sl_fol s a b c d = true ∧ (sl_wo sc s).toInt = (sc (a * 16 + pa)).toInt + (sc (b * 16 + pb)).toInt + (sc (c * 16 + pc)).toInt + (sc (d * 16 + pd)).toInt := by
  obtain ⟨sa, ca, oa⟩ := sl_QF qa
  obtain ⟨sb, cb, ob⟩ := sl_QF qb
  obtain ⟨sc', cc, oc⟩ := sl_QF qc
  obtain ⟨sd, cd, od⟩ := sl_QF qd
  have ea : pa = 0 := sl_tSu0 pa la sa
  have hnc := sl_tNc a ha b hb4 h1 c hc h2 h3 d hd h4 h5 h6 pb lb sb pc lc sc' pd ld sd
  rw [← ea] at hnc
  have pA : (fun v => if v = a then pa else if v = b then pb else if v = c then pc else pd) a = pa := if_pos rfl
  have pB : (fun v => if v = a then pa else if v = b then pb else if v = c then pc else pd) b = pb := by
    show (if b = a then pa else if b = b then pb else if b = c then pc else pd) = pb
    rw [if_neg (fun e => h1 e.symm), if_pos rfl]
  have pC : (fun v => if v = a then pa else if v = b then pb else if v = c then pc else pd) c = pc := by
    show (if c = a then pa else if c = b then pb else if c = c then pc else pd) = pc
    rw [if_neg (fun e => h2 e.symm), if_neg (fun e => h3 e.symm), if_pos rfl]
  have pD : (fun v => if v = a then pa else if v = b then pb else if v = c then pc else pd) d = pd := by
    show (if d = a then pa else if d = b then pb else if d = c then pc else pd) = pd
    rw [if_neg (fun e => h4 e.symm), if_neg (fun e => h5 e.symm), if_neg (fun e => h6 e.symm)]
  generalize (fun v => if v = a then pa else if v = b then pb else if v = c then pc else pd) = P at *
  have hv4 : ∀ v, v < 4 → v = a ∨ v = b ∨ v = c ∨ v = d := fun v hv => by omega
  have hall : ∀ v, v < 4 → P v < 16 ∧ sl_b (P v) v = 0 ∧ sl_ok mp ek v (P v) = true := by
    intro v hv
    rcases hv4 v hv with rfl | rfl | rfl | rfl
    · rw [pA]; exact ⟨la, ca, oa⟩
    · rw [pB]; exact ⟨lb, cb, ob⟩
    · rw [pC]; exact ⟨lc, cc, oc⟩
    · rw [pD]; exact ⟨ld, cd, od⟩
  obtain ⟨s, hs, hm, haw⟩ := sl_mkS (mp := mp) (ek := ek) P (fun v hv => (hall v hv).1) (fun v hv => (hall v hv).2.1) (fun v hv => (hall v hv).2.2) hnc
  have mA := (hm a ha).trans pA
  have mB := (hm b hb4).trans pB
  have mC := (hm c hc).trans pC
  have mD := (hm d hd).trans pD
  refine ⟨s, hs, haw, ?_, ?_⟩
  · unfold sl_fol
    rw [mA, mB, mC, ea, sb, sc', beq_eq_false_iff_ne.mpr (fun e => h4 e.symm)]
    rfl
  · rw [sl_woP hbd s ha hb4 hc hd h1 h2 h3 h4 h5 h6, mA, mB, mC, mD]
theorem sl_sum4 {w x y z : Int32} (hw : -1000 ≤ w.toInt ∧ w.toInt ≤ 1000) (hx : -1000 ≤ x.toInt ∧ x.toInt ≤ 1000) (hy : -1000 ≤ y.toInt ∧ y.toInt ≤ 1000) (hz : -1000 ≤ z.toInt ∧ z.toInt ≤ 1000) : (w + x + y + z).toInt = w.toInt + x.toInt + y.toInt + z.toInt := by
  have e1 := sl_addI (a := w) (b := x) (by omega) (by omega) (by omega) (by omega)
  have e2 := sl_addI (a := w + x) (b := y) (by omega) (by omega) (by omega) (by omega)
  have e3 := sl_addI (a := w + x + y) (b := z) (by omega) (by omega) (by omega) (by omega)
  omega
theorem sl_nN {x : Int32} (h : -1000 ≤ x.toInt) : ¬ x = -100000 := by
  intro e
  rw [e, sl_NI] at h
  omega
theorem sl_wiE {mp : Int32} {sc ek : Nat → Int32} {a b c d : Nat} (n1 : ¬ sl_bs mp sc ek a 0 = -100000) (n2 : ¬ sl_bs mp sc ek b (2 ^ a) = -100000) (n3 : ¬ sl_bs mp sc ek c (2 ^ a ||| 2 ^ b) = -100000) (n4 : ¬ sl_bs mp sc ek d (2 ^ a ||| 2 ^ b ||| 2 ^ c) = -100000) : sl_wi mp sc ek a b c d = sl_bs mp sc ek a 0 + sl_bs mp sc ek b (2 ^ a) + sl_bs mp sc ek c (2 ^ a ||| 2 ^ b) + sl_bs mp sc ek d (2 ^ a ||| 2 ^ b ||| 2 ^ c) := by
  unfold sl_wi
  rw [if_neg n1, if_neg n2, if_neg n3, if_neg n4]
theorem sl_awF {mp : Int32} {ek : Nat → Int32} {s v : Nat} (h : sl_aw mp ek s = true) (hv : v < 4) : sl_ok mp ek v (sl_mm s v) = true := by
  unfold sl_aw at h
  rw [Bool.and_eq_true, sl_al_iff] at h
  exact h.2 v (by omega) (by omega)
/-- the key of orders -/
theorem sl_key {mp : Int32} {sc ek : Nat → Int32} {g : Int32} (hbd : sl_bd sc) (hg : ∀ s, s < 4096 → sl_aw mp ek s = true → sl_wo sc s ≤ g) (hgN : ¬ g = -100000) {a b c d : Nat} (ha : a < 4) (hb4 : b < 4) (hc : c < 4) (hd : d < 4) (h1 : ¬ a = b) (h2 : ¬ a = c) (h3 : ¬ b = c) (h4 : ¬ a = d) (h5 : ¬ b = d) (h6 : ¬ c = d) : (∃ s, s < 4096 ∧ sl_fol s a b c d = true ∧ sl_wo sc s = g ∧ sl_aw mp ek s = true) ↔ sl_wi mp sc ek a b c d = g := by
  have A := sl_bsB (mp := mp) (ek := ek) 0 hbd ha
  have B := sl_bsB (mp := mp) (ek := ek) (2 ^ a) hbd hb4
  have C := sl_bsB (mp := mp) (ek := ek) (2 ^ a ||| 2 ^ b) hbd hc
  have D := sl_bsB (mp := mp) (ek := ek) (2 ^ a ||| 2 ^ b ||| 2 ^ c) hbd hd
  constructor
  · intro ⟨s, hs, hf, hw, haw⟩
    unfold sl_fol at hf
    rw [Bool.and_eq_true, Bool.and_eq_true, Bool.and_eq_true, beq_iff_eq] at hf
    obtain ⟨f1, f2, f3, _⟩ := hf
    have qa : sl_Q mp ek a 0 (sl_mm s a) = true := sl_QT (by rw [f1]; rfl) (sl_mmb ha) (sl_awF haw ha)
    have qb : sl_Q mp ek b (2 ^ a) (sl_mm s b) = true := sl_QT f2 (sl_mmb hb4) (sl_awF haw hb4)
    have qc : sl_Q mp ek c (2 ^ a ||| 2 ^ b) (sl_mm s c) = true := sl_QT f3 (sl_mmb hc) (sl_awF haw hc)
    have qd : sl_Q mp ek d (2 ^ a ||| 2 ^ b ||| 2 ^ c) (sl_mm s d) = true := sl_QT (sl_tLast a ha b hb4 h1 c hc h2 h3 d hd h4 h5 h6 _ (sl_mm16 hd) (sl_mmb hd)) (sl_mmb hd) (sl_awF haw hd)
    rcases A with ⟨_, A⟩ | ⟨⟨pa, la, Qa, ea⟩, A⟩
    · rw [A _ (sl_mm16 ha)] at qa; exact absurd qa Bool.false_ne_true
    rcases B with ⟨_, B⟩ | ⟨⟨pb, lb, Qb, eb⟩, B⟩
    · rw [B _ (sl_mm16 hb4)] at qb; exact absurd qb Bool.false_ne_true
    rcases C with ⟨_, C⟩ | ⟨⟨pc, lc, Qc, ec⟩, C⟩
    · rw [C _ (sl_mm16 hc)] at qc; exact absurd qc Bool.false_ne_true
    rcases D with ⟨_, D⟩ | ⟨⟨pd, ld, Qd, ed⟩, D⟩
    · rw [D _ (sl_mm16 hd)] at qd; exact absurd qd Bool.false_ne_true
    have ba := sl_bdm hbd ha la (sl_QF Qa).2.1
    have bb := sl_bdm hbd hb4 lb (sl_QF Qb).2.1
    have bc := sl_bdm hbd hc lc (sl_QF Qc).2.1
    have bd := sl_bdm hbd hd ld (sl_QF Qd).2.1
    have ga := Int32.le_iff_toInt_le.mp (A _ (sl_mm16 ha) qa)
    have gb := Int32.le_iff_toInt_le.mp (B _ (sl_mm16 hb4) qb)
    have gc := Int32.le_iff_toInt_le.mp (C _ (sl_mm16 hc) qc)
    have gd := Int32.le_iff_toInt_le.mp (D _ (sl_mm16 hd) qd)
    have ws := sl_woP hbd s ha hb4 hc hd h1 h2 h3 h4 h5 h6
    rw [← ea] at ba
    rw [← eb] at bb
    rw [← ec] at bc
    rw [← ed] at bd
    obtain ⟨s', hs', haw', _, hw'⟩ := sl_put hbd ha hb4 hc hd h1 h2 h3 h4 h5 h6 la lb lc ld Qa Qb Qc Qd
    have gs := Int32.le_iff_toInt_le.mp (hg s' hs' haw')
    rw [← ea, ← eb, ← ec, ← ed] at hw'
    rw [sl_wiE (sl_nN ba.1) (sl_nN bb.1) (sl_nN bc.1) (sl_nN bd.1)]
    apply Int32.toInt_inj.mp
    rw [sl_sum4 ba bb bc bd]
    have hw2 := congrArg Int32.toInt hw
    omega
  · intro hwi
    have hN : ¬ sl_wi mp sc ek a b c d = -100000 := by rw [hwi]; exact hgN
    rcases A with ⟨e, _⟩ | ⟨⟨pa, la, Qa, ea⟩, A⟩
    · exact absurd (by unfold sl_wi; rw [if_pos e]) hN
    have ba := sl_bdm hbd ha la (sl_QF Qa).2.1
    rw [← ea] at ba
    rcases B with ⟨e, _⟩ | ⟨⟨pb, lb, Qb, eb⟩, B⟩
    · exact absurd (by unfold sl_wi; rw [if_neg (sl_nN ba.1), if_pos e]) hN
    have bb := sl_bdm hbd hb4 lb (sl_QF Qb).2.1
    rw [← eb] at bb
    rcases C with ⟨e, _⟩ | ⟨⟨pc, lc, Qc, ec⟩, C⟩
    · exact absurd (by unfold sl_wi; rw [if_neg (sl_nN ba.1), if_neg (sl_nN bb.1), if_pos e]) hN
    have bc := sl_bdm hbd hc lc (sl_QF Qc).2.1
    rw [← ec] at bc
    rcases D with ⟨e, _⟩ | ⟨⟨pd, ld, Qd, ed⟩, D⟩
    · exact absurd (by unfold sl_wi; rw [if_neg (sl_nN ba.1), if_neg (sl_nN bb.1), if_neg (sl_nN bc.1), if_pos e]) hN
    have bd := sl_bdm hbd hd ld (sl_QF Qd).2.1
    rw [← ed] at bd
    obtain ⟨s', hs', haw', hf', hw'⟩ := sl_put hbd ha hb4 hc hd h1 h2 h3 h4 h5 h6 la lb lc ld Qa Qb Qc Qd
    rw [← ea, ← eb, ← ec, ← ed] at hw'
    refine ⟨s', hs', hf', ?_, haw'⟩
    rw [← hwi, sl_wiE (sl_nN ba.1) (sl_nN bb.1) (sl_nN bc.1) (sl_nN bd.1)]
    apply Int32.toInt_inj.mp
    rw [sl_sum4 ba bb bc bd]
    exact hw'
