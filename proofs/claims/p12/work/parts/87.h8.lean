/-! the search as a function, and the class's fill -/
def badB (ar : Nat → Int32) (Lc : Nat → Nat) (Tc : Nat → Nat → Nat) (m n : Nat) (V : Nat → Nat) : Bool := (List.range m).any (fun i => (List.range (chz (Tc i) (Lc i) 0 n)).any (fun x => (List.range (chz (Tc i) (Lc i) 1 n)).any (fun y => (List.range (chz (Tc i) (Lc i) 2 n)).any (fun z => brk ar Lc Tc i x y z V))))
theorem badB_t {ar : Nat → Int32} {Lc : Nat → Nat} {Tc : Nat → Nat → Nat} {m n : Nat} {V : Nat → Nat} : badB ar Lc Tc m n V = true ↔ ∃ i x y z, vld m Lc Tc n i x y z ∧ brk ar Lc Tc i x y z V = true := by
  unfold badB vld
  simp only [List.any_eq_true, List.mem_range]
  constructor
  · rintro ⟨i, h1, x, h2, y, h3, z, h4, h5⟩
    exact ⟨i, x, y, z, ⟨h1, h2, h3, h4⟩, h5⟩
  · rintro ⟨i, x, y, z, ⟨h1, h2, h3, h4⟩, h5⟩
    exact ⟨i, h1, x, h2, y, h3, z, h4, h5⟩
theorem badB_f {ar : Nat → Int32} {Lc : Nat → Nat} {Tc : Nat → Nat → Nat} {m n : Nat} {V : Nat → Nat} : badB ar Lc Tc m n V = false ↔ ∀ i x y z, vld m Lc Tc n i x y z → brk ar Lc Tc i x y z V = false := by
  constructor
  · intro h i x y z hv
    cases e : brk ar Lc Tc i x y z V with
    | false => rfl
    | true => exact absurd (badB_t.mpr ⟨i, x, y, z, hv, e⟩) (by rw [h]; decide)
  · intro h
    cases e : badB ar Lc Tc m n V with
    | false => rfl
    | true =>
      obtain ⟨i, x, y, z, hv, q⟩ := badB_t.mp e
      rw [h i x y z hv] at q
      exact absurd q (by decide)
/-- the greatest value of a function's cell before a rank, and one more than the greatest argument of a cell -/
def gbF (ord : Nat → Nat) (V : Nat → Nat) : Nat → Nat
  | 0 => 0
  | k + 1 => if ord k < 64 then max (gbF ord V k) (V (ord k)) else gbF ord V k
def gaC (ar : Nat → Int32) (a : Nat) : Nat := if ar (a / 16) = 1 then a % 16 / 4 + 1 else if ar (a / 16) = 2 then max (a % 16 / 4) (a % 4) + 1 else 0
def lmN (ar : Nat → Int32) (ord : Nat → Nat) (n : Nat) (V : Nat → Nat) (k : Nat) : Nat := if ord k < 64 then min (max (gaC ar (ord k)) (gbF ord V k)) (n - 1) else 1
def upV (V : Nat → Nat) (a v : Nat) : Nat → Nat := fun x => if x = a then v else V x
theorem upV_s {V : Nat → Nat} {a v : Nat} : upV V a v a = v := if_pos rfl
theorem upV_o {V : Nat → Nat} {a v x : Nat} (h : x ≠ a) : upV V a v x = V x := if_neg h
def wsp (ar : Nat → Int32) (ord : Nat → Nat) (c n : Nat) (Lc : Nat → Nat) (Tc : Nat → Nat → Nat) (m : Nat) : Nat → Nat → Nat → (Nat → Nat) → Int32 × Nat × Nat × (Nat → Nat)
  | 0, p, t, V => (-4, p, t, V)
  | f + 1, p, t, V =>
    if p = 0 then (0, p, t, V) else if c < p then (1, p, t, V)
    else if V (ord (p - 1)) ≤ lmN ar ord n V (p - 1) then
      (if t = 3000 then (-4, p, t, V) else wsp ar ord c n Lc Tc m f (bif badB ar Lc Tc m n (upV V (ord (p - 1)) (V (ord (p - 1)) + 1)) then p else p + 1) (t + 1) (upV V (ord (p - 1)) (V (ord (p - 1)) + 1)))
    else wsp ar ord c n Lc Tc m f (p - 1) t (upV V (ord (p - 1)) 0)
def Vs (n : Nat) (ord : Nat → Nat) (c p : Nat) (V : Nat → Nat) : Prop := (∀ k, k < c → k + 1 < p → V (ord k) ≠ 0) ∧ (∀ k, k < c → p ≤ k → V (ord k) = 0) ∧ (∀ a, a < 64 → V a ≤ n) ∧ (∀ a, 64 ≤ a → a < 128 → V a ≤ 2)
theorem gbF_congr {ord V W : Nat → Nat} : ∀ k, (∀ j, j < k → W (ord j) = V (ord j)) → gbF ord W k = gbF ord V k := by
  intro k
  induction k with
  | zero => exact fun _ => rfl
  | succ k ih =>
    intro h
    show (if ord k < 64 then max (gbF ord W k) (W (ord k)) else gbF ord W k) = _
    rw [ih (fun j hj => h j (by omega)), h k (by omega)]
    rfl
theorem gbF_le {n c : Nat} {ord V : Nat → Nat} (hV : ∀ a, a < 64 → V a ≤ n) : ∀ k, gbF ord V k ≤ n := by
  intro k
  induction k with
  | zero => exact Nat.zero_le _
  | succ k ih =>
    show (if ord k < 64 then max (gbF ord V k) (V (ord k)) else gbF ord V k) ≤ n
    split
    · rename_i h
      have := hV _ h
      omega
    · exact ih
theorem JP_down {ar : Nat → Int32} {ord : Nat → Nat} {c : Nat} {Lc : Nat → Nat} {Tc : Nat → Nat → Nat} {m n r s : Nat} {V W : Nat → Nat} {σ : ab_M} (h : JP ar ord c Lc Tc m n r V σ) (hs : s ≤ r) (hW : ∀ k, k < s → k < c → W (ord k) = V (ord k)) : JP ar ord c Lc Tc m n s W σ := by
  intro i x y z hv
  obtain ⟨g, ms, h1, h2, h3, h4⟩ := h i x y z hv
  exact ⟨g, ms, h1, by omega, h3, fun hg V' a1 a2 => h4 (by omega) V' (fun k hk kc => by rw [a1 k hk kc, hW k (by omega) kc]) a2⟩
def fW (σ τ : ab_M) : Prop := ∀ z, z ≠ 38 → (z < 42 ∨ 49 ≤ z) → τ z = σ z
theorem fW.rf {σ : ab_M} : fW σ σ := fun _ _ _ => rfl
theorem fW.tr {σ τ υ : ab_M} (h1 : fW σ τ) (h2 : fW τ υ) : fW σ υ := fun z a b => (h2 z a b).trans (h1 z a b)
theorem fW.up {σ τ : ab_M} (h : fW σ τ) {q k : Nat} {v : Int32} (hq : q = 38 ∨ (42 ≤ q ∧ q < 49)) : fW σ (ab_upd τ q k v) := fun z a b => by
  rw [ab_upd_off _ _ (by omega)]
  exact h z a b
theorem fW.of {σ τ : ab_M} (h : fK σ τ) : fW σ τ := fun z _ b => h z (by omega)
/-- the class's state in the search -/
def CS (ar : Nat → Int32) (ord : Nat → Nat) (c n : Nat) (Lc : Nat → Nat) (Tc : Nat → Nat → Nat) (m p t : Nat) (V : Nat → Nat) (σ : ab_M) : Prop := VVc V σ ∧ Vs n ord c p V ∧ CA σ ∧ (1 ≤ p → JP ar ord c Lc Tc m n (p - 1) V σ) ∧ (∀ k, k < p → σ 48 k = dn (gbF ord V k)) ∧ σ 45 6 = nI t ∧ t ≤ 3000 ∧ p ≤ c + 1
section FI2
variable {σ : ab_M} {Q : Option ab_V → ab_M → Prop}
theorem rk_t {c k : Nat} (hc : c ≤ 128) (h5 : σ 37 5 = nI c) (hk : k < c) (h : Q (some (.inl 1)) σ) : evm mX6_isRank [.inr (.inr 37), .inl (nI k)] σ Q := s_X6_isRank_0 ⟨fun q => absurd q (nI_pos (by omega)), fun _ => ⟨fun q => absurd q (by rw [h5]; exact nI_ge (by omega) (by omega)), fun _ => h⟩⟩
theorem OKo {ar : Nat → Int32} {n c k : Nat} {ord : Nat → Nat} (hO : OK ar n ord c) (n4 : n ≤ 4) (hk : k < c) : ord k < 128 ∧ ord k / 16 < 8 := by
  obtain ⟨s, i, j, h1, h2, h3⟩ := hO.2.1 k hk
  rcases h3 with ⟨_, a, b⟩ | ⟨_, a, b⟩ | ⟨_, a, b⟩ <;> omega
theorem va_f {ar : Nat → Int32} {n c k : Nat} {ord V : Nat → Nat} (hO : OK ar n ord c) (n4 : n ≤ 4) (hOC : OC n ord c σ) (hV : VVc V σ) (hk : k < c) (h : Q (some (.inl (dn (V (ord k))))) σ) : evm mX6_valueAt [.inr (.inr 37), .inl (nI k)] σ Q := by
  have c1 := hO.1
  have o1 := (OKo hO n4 hk).1
  refine s_X6_valueAt_0 (rk_t c1 hOC.2.1 hk ⟨_, rfl, fun q => absurd q (by decide), fun _ => ?_⟩)
  rw [nI_clamp (by omega), (hOC.2.2 k hk).1, nI_clamp (by omega), (hV _ o1).1]
  exact ⟨inN (by omega) (by decide), inN o1 (by decide), h⟩
theorem pa_f {ar : Nat → Int32} {n c k v : Nat} {ord V : Nat → Nat} (hO : OK ar n ord c) (n4 : n ≤ 4) (hOC : OC n ord c σ) (hV : VVc V σ) (hk : k < c) (hv : v ≤ 4) (h : ∀ τ, VVc (upV V (ord k) v) τ → (∀ z, z ≠ 38 → τ z = σ z) → Q none τ) : evm mX6_putAt [.inr (.inr 37), .inl (nI k), .inl (dn v)] σ Q := by
  have c1 := hO.1
  have o1 := (OKo hO n4 hk).1
  refine s_X6_putAt_0 (rk_t c1 hOC.2.1 hk ⟨_, rfl, fun q => absurd q (by decide), fun _ => ?_⟩)
  rw [nI_clamp (by omega), (hOC.2.2 k hk).1, nI_clamp (by omega)]
  refine ⟨inN (by omega) (by decide), inN o1 (by decide), h _ (fun a ha => ?_) (fun z hz => ab_upd_off _ _ hz)⟩
  rw [ab_upd_eq]
  by_cases e : a = ord k
  · rw [if_pos ⟨rfl, e⟩, e, upV_s]
    exact ⟨rfl, hv⟩
  · rw [if_neg (fun q => e q.2), upV_o e]
    exact hV a ha
theorem d16 : ∀ a, a < 128 → nI a / 16 = nI (a / 16) := by decide +kernel
theorem fa_f {ar : Nat → Int32} {n c k : Nat} {ord : Nat → Nat} (hO : OK ar n ord c) (n4 : n ≤ 4) (hOC : OC n ord c σ) (hk : k < c) (h1 : ord k < 64 → Q (some (.inl 1)) σ) (h0 : ¬ ord k < 64 → Q (some (.inl 0)) σ) : evm mX6_isFunctionAt [.inr (.inr 37), .inl (nI k)] σ Q := by
  have c1 := hO.1
  have o1 := (OKo hO n4 hk).1
  refine s_X6_isFunctionAt_0 (rk_t c1 hOC.2.1 hk ⟨_, rfl, fun q => absurd q (by decide), fun _ => ⟨inN (by omega) (by decide), ?_⟩⟩)
  rw [nI_clamp (by omega), (hOC.2.2 k hk).1, d16 _ o1]
  have l4 : 4 ≤ nI (ord k / 16) ↔ 4 ≤ ord k / 16 := nI_leI (a := 4) (by decide) (by omega)
  refine s_X7_isFunction_0 ⟨fun q => absurd q (nI_pos (by omega)), fun _ => ⟨fun q => ⟨_, rfl, fun _ => h0 (by have := l4.mp q; omega), fun q2 => absurd rfl q2⟩, fun q => ⟨_, rfl, fun q2 => absurd q2 (by decide), fun _ => h1 (by rcases Nat.lt_or_ge (ord k / 16) 4 with g | g; omega; exact absurd (l4.mpr g) q)⟩⟩⟩
theorem mm_t {a b : Nat} (ha : a ≤ 129) (hb : b ≤ 129) : ab_mm true (dn a) (dn b) = dn (max a b) := by
  show (if dn a < dn b then dn b else dn a) = _
  have h := dn_le2 hb ha
  rw [Int32.le_iff_toInt_le] at h
  by_cases q : b ≤ a
  · rw [if_neg (by rw [Int32.lt_iff_toInt_lt]; omega)]
    congr 1
    omega
  · rw [if_pos (by rw [Int32.lt_iff_toInt_lt]; omega)]
    congr 1
    omega
theorem mm_f {a b : Nat} (ha : a ≤ 129) (hb : b ≤ 129) : ab_mm false (nI a) (nI b) = nI (min a b) := by
  show (if nI b < nI a then nI b else nI a) = _
  have := nI_ltI (a := b) (b := a) (by omega) (by omega)
  by_cases q : b < a
  · rw [if_pos (this.mpr q)]
    congr 1
    omega
  · rw [if_neg (fun x => q (this.mp x))]
    congr 1
    omega
theorem gaC_le {ar : Nat → Int32} {a : Nat} : gaC ar a ≤ 4 := by
  unfold gaC
  split
  · omega
  · split
    · omega
    · omega
theorem li_f {ar : Nat → Int32} {n c k : Nat} {ord V : Nat → Nat} (hO : OK ar n ord c) (n1 : 1 ≤ n) (n4 : n ≤ 4) (hOC : OC n ord c σ) (h41 : ∀ k, k < c → σ 41 k = dn (gaC ar (ord k))) (h48 : σ 48 k = dn (gbF ord V k)) (hgb : gbF ord V k ≤ 4) (hk : k < c) (h : Q (some (.inl (nI (lmN ar ord n V k)))) σ) : evm mX4_limitAt [.inr (.inr 45), .inl (nI k)] σ Q := by
  have c1 := hO.1
  unfold lmN at h
  refine s_X4_limitAt_0 (fa_f hO n4 hOC hk (fun q => ⟨_, rfl, fun q2 => absurd q2 (by decide), fun _ => ?_⟩) (fun q => ⟨_, rfl, fun _ => ?_, fun q2 => absurd rfl q2⟩))
  · rw [if_pos q] at h
    refine s_X6_greatestArgumentAt_0 (rk_t c1 hOC.2.1 hk ⟨_, rfl, fun q => absurd q (by decide), fun _ => ⟨inN (by omega) (by decide), _, rfl, inN (by omega) (by decide), s_X6_sizeLaid_0 ⟨_, rfl, ?_⟩⟩⟩)
    have g4 := gaC_le (ar := ar) (a := ord k)
    rw [nI_clamp (by omega), h41 k hk, h48, hOC.1, mm_t (by omega) (by omega)]
    have e1 : dn (max (gaC ar (ord k)) (gbF ord V k)) + 1 = nI (max (gaC ar (ord k)) (gbF ord V k)) := by rw [dn_1, dn_s]
    have e2 : nI n - 1 = nI (n - 1) := by
      obtain ⟨a, rfl⟩ : ∃ a, n = a + 1 := ⟨n - 1, by omega⟩
      exact nI_pred a
    rw [e1, e2, mm_f (by omega) (by omega)]
    exact h
  · rw [if_neg q] at h
    exact h
end FI2
