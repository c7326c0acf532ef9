/-! the pure picture: masks, digits, folds; and the tables that tie them to the machine's numbers -/
def sl_go {α : Type} (f : Nat → α → α) : Nat → Nat → α → α
  | _, 0, a => a
  | i, k + 1, a => sl_go f (i + 1) k (f i a)
def sl_al (f : Nat → Bool) : Nat → Nat → Bool
  | _, 0 => true
  | i, k + 1 => f i && sl_al f (i + 1) k
def sl_an (f : Nat → Bool) : Nat → Nat → Bool
  | _, 0 => false
  | i, k + 1 => f i || sl_an f (i + 1) k
def sl_I (b : Bool) : Int32 := cond b 1 0
def sl_mk (v d : Nat) : Nat := d % 2 ^ v + d / 2 ^ v * 2 ^ (v + 1)
def sl_un (v p : Nat) : Nat := p % 2 ^ v + p / 2 ^ (v + 1) * 2 ^ v
def sl_b (p u : Nat) : Nat := p / 2 ^ u % 2
def sl_dg (s v : Nat) : Nat := s / 8 ^ (3 - v) % 8
def sl_mm (s v : Nat) : Nat := sl_mk v (sl_dg s v)
def sl_sz (p : Nat) : Nat := 0 + sl_b p 0 + sl_b p 1 + sl_b p 2 + sl_b p 3
def sl_sO (d0 d1 d2 d3 : Nat) : Nat := ((d0 * 8 + d1) * 8 + d2) * 8 + d3
def sl_pk (s : Nat) : Nat := sl_mm s 0 + 16 * sl_mm s 1 + 256 * sl_mm s 2 + 4096 * sl_mm s 3
def sl_ek (ek : Nat → Int32) (v p u : Nat) : Bool := !((sl_b p u == 1 && decide (ek (u * 4 + v) = 1)) || (sl_b p u == 0 && decide (ek (u * 4 + v) = 2)))
def sl_ok (mp : Int32) (ek : Nat → Int32) (v p : Nat) : Bool := decide (nI (sl_sz p) ≤ mp) && sl_al (sl_ek ek v p) 0 4
def sl_st (m : Nat → Nat) (v p : Nat) : Nat := if m v &&& (15 - p) = 0 then p ||| 2 ^ v else p
def sl_nc (m : Nat → Nat) : Bool := sl_go (fun _ p => sl_go (sl_st m) 0 4 p) 0 4 0 == 15
def sl_wo (sc : Nat → Int32) (s : Nat) : Int32 := 0 + sc (0 * 16 + sl_mm s 0) + sc (1 * 16 + sl_mm s 1) + sc (2 * 16 + sl_mm s 2) + sc (3 * 16 + sl_mm s 3)
theorem sl_c4 {P : Nat → Prop} (h0 : P 0) (h1 : P 1) (h2 : P 2) (h3 : P 3) {v : Nat} (hv : v < 4) : P v := by
  match v, hv with
  | 0, _ => exact h0
  | 1, _ => exact h1
  | 2, _ => exact h2
  | 3, _ => exact h3
theorem sl_b01 (p u : Nat) : sl_b p u = 0 ∨ sl_b p u = 1 := by
  unfold sl_b
  generalize p / 2 ^ u = z
  omega
theorem sl_tMk : ∀ v, v < 4 → ∀ d, d < 8 → sl_mk v d < 16 ∧ sl_b (sl_mk v d) v = 0 ∧ sl_un v (sl_mk v d) = d := by decide +kernel
theorem sl_tUn : ∀ v, v < 4 → ∀ p, p < 16 → sl_b p v = 0 → sl_un v p < 8 ∧ sl_mk v (sl_un v p) = p := by decide +kernel
theorem sl_tBitA : ∀ u, u < 4 → ∀ p, p < 16 → ((nI p &&& ((1 : Int32) <<< (nI u &&& 31))) = 0 ↔ sl_b p u = 0) := by decide +kernel
theorem sl_tBitS : ∀ u, u < 4 → ∀ p, p < 16 → ((nI p >>> (nI u &&& 31)) &&& 1) = nI (sl_b p u) := by decide +kernel
theorem sl_tMask : ∀ v, v < 4 → ∀ d, d < 8 → (nI d &&& (((1 : Int32) <<< (nI v &&& 31)) - 1)) ||| ((nI d >>> (nI v &&& 31)) <<< ((nI v + 1) &&& 31)) = nI (sl_mk v d) := by decide +kernel
theorem sl_tDigit : ∀ v, v < 4 → ∀ p, p < 16 → (nI p &&& (((1 : Int32) <<< (nI v &&& 31)) - 1)) ||| ((nI p >>> ((nI v + 1) &&& 31)) <<< (nI v &&& 31)) = nI (sl_un v p) := by decide +kernel
theorem sl_tBits : ∀ p, p < 16 → ((((nI p &&& 1) + ((nI p >>> ((1 : Int32) &&& 31)) &&& 1)) + ((nI p >>> ((2 : Int32) &&& 31)) &&& 1)) + ((nI p >>> ((3 : Int32) &&& 31)) &&& 1)) = nI (sl_sz p) := by decide +kernel
theorem sl_tSub : ∀ x, x < 16 → ∀ p, p < 16 → ((nI x &&& (nI p ^^^ (-1))) = 0 ↔ x &&& (15 - p) = 0) := by decide +kernel
theorem sl_tOr : ∀ p, p < 16 → ∀ v, v < 4 → nI p ||| ((1 : Int32) <<< (nI v &&& 31)) = nI (p ||| 2 ^ v) ∧ p ||| 2 ^ v < 16 := by decide +kernel
theorem sl_tSz : ∀ p, p < 16 → sl_sz p ≤ 4 := by decide +kernel
theorem sl_mm16 {s v : Nat} (hv : v < 4) : sl_mm s v < 16 := (sl_tMk v hv _ (Nat.mod_lt _ (by decide))).1
theorem sl_mmb {s v : Nat} (hv : v < 4) : sl_b (sl_mm s v) v = 0 := (sl_tMk v hv _ (Nat.mod_lt _ (by decide))).2.1
theorem sl_pk16 (s : Nat) : sl_pk s < 65536 := by
  have h0 := sl_mm16 (s := s) (v := 0) (by omega)
  have h1 := sl_mm16 (s := s) (v := 1) (by omega)
  have h2 := sl_mm16 (s := s) (v := 2) (by omega)
  have h3 := sl_mm16 (s := s) (v := 3) (by omega)
  unfold sl_pk
  omega
theorem sl_pI {st v : Nat} (hs : st < 65536) (hv : v < 4) : (nI st >>> ((4 * nI v) &&& 31)) &&& 15 = nI (st / 16 ^ v % 16) := by
  have h31 : st < 2 ^ 31 := by omega
  have hd : ∀ k, st / 2 ^ k < 2 ^ 32 := fun k => Nat.lt_of_le_of_lt (Nat.div_le_self _ _) (by omega)
  refine sl_c4 (P := fun v => (nI st >>> ((4 * nI v) &&& 31)) &&& 15 = nI (st / 16 ^ v % 16)) ?_ ?_ ?_ ?_ hv
  · rw [pk_shrN h31 _ 0 (by decide), pk_andN (hd 0) 4 (by decide)]
  · rw [pk_shrN h31 _ 4 (by decide), pk_andN (hd 4) 4 (by decide)]
  · rw [pk_shrN h31 _ 8 (by decide), pk_andN (hd 8) 4 (by decide)]
  · rw [pk_shrN h31 _ 12 (by decide), pk_andN (hd 12) 4 (by decide)]
theorem sl_pkD {p0 p1 p2 p3 v : Nat} (h0 : p0 < 16) (h1 : p1 < 16) (h2 : p2 < 16) (h3 : p3 < 16) (m : Nat → Nat) (e0 : m 0 = p0) (e1 : m 1 = p1) (e2 : m 2 = p2) (e3 : m 3 = p3) (hv : v < 4) : (p0 + 16 * p1 + 256 * p2 + 4096 * p3) / 16 ^ v % 16 = m v := by
  refine sl_c4 (P := fun v => (p0 + 16 * p1 + 256 * p2 + 4096 * p3) / 16 ^ v % 16 = m v) ?_ ?_ ?_ ?_ hv
  · show _ / 1 % 16 = _
    omega
  · show _ / 16 % 16 = _
    omega
  · show _ / 256 % 16 = _
    omega
  · show _ / 4096 % 16 = _
    omega
theorem sl_pIs {s v : Nat} (hv : v < 4) : (nI (sl_pk s) >>> ((4 * nI v) &&& 31)) &&& 15 = nI (sl_mm s v) := by
  rw [sl_pI (sl_pk16 s) hv]
  exact congrArg nI (sl_pkD (sl_mm16 (by omega)) (sl_mm16 (by omega)) (sl_mm16 (by omega)) (sl_mm16 (by omega)) (sl_mm s) rfl rfl rfl rfl hv)
theorem sl_dI {s v : Nat} (hs : s < 4096) (hv : v < 4) : (nI s >>> ((3 * (3 - nI v)) &&& 31)) &&& 7 = nI (sl_dg s v) := by
  have h31 : s < 2 ^ 31 := by omega
  have hd : ∀ k, s / 2 ^ k < 2 ^ 32 := fun k => Nat.lt_of_le_of_lt (Nat.div_le_self _ _) (by omega)
  refine sl_c4 (P := fun v => (nI s >>> ((3 * (3 - nI v)) &&& 31)) &&& 7 = nI (sl_dg s v)) ?_ ?_ ?_ ?_ hv
  · rw [pk_shrN h31 _ 9 (by decide), pk_andN (hd 9) 3 (by decide)]; rfl
  · rw [pk_shrN h31 _ 6 (by decide), pk_andN (hd 6) 3 (by decide)]; rfl
  · rw [pk_shrN h31 _ 3 (by decide), pk_andN (hd 3) 3 (by decide)]; rfl
  · rw [pk_shrN h31 _ 0 (by decide), pk_andN (hd 0) 3 (by decide)]; rfl
theorem sl_dg8 (s v : Nat) : sl_dg s v < 8 := Nat.mod_lt _ (by decide)
theorem sl_ix (v m : Nat) : nI v * 16 + nI m = nI (v * 16 + m) := by
  show nI v * nI 16 + nI m = _
  rw [pk_mul, nI_add]
theorem sl_ix8 (v m : Nat) : nI v * 8 + nI m = nI (v * 8 + m) := by
  show nI v * nI 8 + nI m = _
  rw [pk_mul, nI_add]
theorem sl_ix4 (v m : Nat) : nI v * 4 + nI m = nI (v * 4 + m) := by
  show nI v * nI 4 + nI m = _
  rw [pk_mul, nI_add]
theorem sl_go_app {α : Type} (f : Nat → α → α) : ∀ (k l i : Nat) (a : α), sl_go f i (k + l) a = sl_go f (i + k) l (sl_go f i k a) := by
  intro k
  induction k with
  | zero => intro l i a; rw [Nat.zero_add]; rfl
  | succ k ih =>
    intro l i a
    rw [Nat.succ_add]
    show sl_go f (i + 1) (k + l) (f i a) = sl_go f (i + (k + 1)) l (sl_go f (i + 1) k (f i a))
    rw [ih, show i + (k + 1) = i + 1 + k from by omega]
theorem sl_go_congr {α : Type} (f g : Nat → α → α) : ∀ (k i : Nat) (a : α), (∀ j, i ≤ j → j < i + k → ∀ q, f j q = g j q) → sl_go f i k a = sl_go g i k a := by
  intro k
  induction k with
  | zero => intro i a _; rfl
  | succ k ih =>
    intro i a h
    show sl_go f (i + 1) k (f i a) = sl_go g (i + 1) k (g i a)
    rw [h i (by omega) (by omega), ih _ _ (fun j h1 h2 => h j (by omega) (by omega))]
theorem sl_go_sh {α : Type} (f : Nat → α → α) (c : Nat) : ∀ (k i : Nat) (a : α), sl_go f (c + i) k a = sl_go (fun j => f (c + j)) i k a := by
  intro k
  induction k with
  | zero => intro i a; rfl
  | succ k ih =>
    intro i a
    show sl_go f (c + i + 1) k (f (c + i) a) = _
    rw [show c + i + 1 = c + (i + 1) from by omega, ih]
    rfl
theorem sl_go_id {α : Type} (f : Nat → α → α) : ∀ (k i : Nat) (a : α), (∀ j, i ≤ j → j < i + k → ∀ q, f j q = q) → sl_go f i k a = a := by
  intro k
  induction k with
  | zero => intro i a _; rfl
  | succ k ih =>
    intro i a h
    show sl_go f (i + 1) k (f i a) = a
    rw [h i (by omega) (by omega), ih _ _ (fun j h1 h2 => h j (by omega) (by omega))]
theorem sl_go_mul {α : Type} (f : Nat → α → α) (b : Nat) : ∀ (k i : Nat) (a : α), sl_go f (i * b) (k * b) a = sl_go (fun j q => sl_go (fun l q => f (j * b + l) q) 0 b q) i k a := by
  intro k
  induction k with
  | zero => intro i a; rw [Nat.zero_mul]; rfl
  | succ k ih =>
    intro i a
    show _ = sl_go _ (i + 1) k (sl_go (fun l q => f (i * b + l) q) 0 b a)
    rw [← ih, Nat.succ_mul, Nat.add_comm (k * b) b, sl_go_app, Nat.succ_mul, ← sl_go_sh f (i * b) b 0 a]
    rfl
theorem sl_al_iff (f : Nat → Bool) : ∀ k i, sl_al f i k = true ↔ ∀ j, i ≤ j → j < i + k → f j = true := by
  intro k
  induction k with
  | zero => intro i; exact ⟨fun _ j h1 h2 => by omega, fun _ => rfl⟩
  | succ k ih =>
    intro i
    show (f i && sl_al f (i + 1) k) = true ↔ _
    rw [Bool.and_eq_true, ih]
    constructor
    · intro h j h1 h2
      by_cases e : j = i
      · rw [e]; exact h.1
      · exact h.2 j (by omega) (by omega)
    · intro h
      exact ⟨h i (by omega) (by omega), fun j h1 h2 => h j (by omega) (by omega)⟩
theorem sl_an_iff (f : Nat → Bool) : ∀ k i, sl_an f i k = true ↔ ∃ j, i ≤ j ∧ j < i + k ∧ f j = true := by
  intro k
  induction k with
  | zero => intro i; exact ⟨fun h => (Bool.false_ne_true h).elim, fun ⟨j, h1, h2, _⟩ => by omega⟩
  | succ k ih =>
    intro i
    show (f i || sl_an f (i + 1) k) = true ↔ _
    rw [Bool.or_eq_true, ih]
    constructor
    · intro h
      rcases h with h | ⟨j, h1, h2, h3⟩
      · exact ⟨i, by omega, by omega, h⟩
      · exact ⟨j, by omega, by omega, h3⟩
    · intro ⟨j, h1, h2, h3⟩
      by_cases e : j = i
      · left; rw [← e]; exact h3
      · right; exact ⟨j, by omega, by omega, h3⟩
