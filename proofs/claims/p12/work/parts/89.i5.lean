/-! the order of the cells: one list -/
def prs (g : Nat) : List Nat := (List.range g).flatMap (fun i => ((List.range g).filter (fun j => decide (i + 1 = g) || decide (j + 1 = g))).map (fun j => 4 * i + j))
def seg (x : Int32) (g s : Nat) : List Nat := if x = 0 then (if g = 0 then [16 * s] else []) else if x = 1 then (if g = 0 then [] else [16 * s + 4 * (g - 1)]) else if x = 2 then (prs g).map (fun q => 16 * s + q) else []
def OLg (ar : Nat → Int32) (g : Nat) : List Nat := (List.range 8).flatMap (fun s => seg (ar s) g s)
def OL (ar : Nat → Int32) (n : Nat) : List Nat := (List.range (n + 1)).flatMap (OLg ar)
theorem prs_lt : ∀ g, g < 5 → ∀ q ∈ prs g, q < 16 ∧ max (q / 4) (q % 4) + 1 = g := by decide +kernel
theorem prs_in : ∀ i, i < 4 → ∀ j, j < 4 → 4 * i + j ∈ prs (max i j + 1) := by decide +kernel
theorem prs_nd : ∀ g, g < 5 → (prs g).Nodup := by decide +kernel
theorem seg_in {x : Int32} {g s a : Nat} (hg : g < 5) (h : a ∈ seg x g s) : a / 16 = s ∧ ((x = 0 ∧ a % 16 = 0 ∧ g = 0) ∨ (x = 1 ∧ a % 4 = 0 ∧ a % 16 / 4 + 1 = g) ∨ (x = 2 ∧ max (a % 16 / 4) (a % 4) + 1 = g)) := by
  unfold seg at h
  split at h
  · rename_i x0
    split at h
    · rename_i g0
      have e : a = 16 * s := by simpa using h
      exact ⟨by omega, Or.inl ⟨x0, by omega, g0⟩⟩
    · simp at h
  · split at h
    · rename_i x1
      split at h
      · simp at h
      · have e : a = 16 * s + 4 * (g - 1) := by simpa using h
        exact ⟨by omega, Or.inr (Or.inl ⟨x1, by omega, by omega⟩)⟩
    · split at h
      · rename_i x2
        obtain ⟨q, h1, h2⟩ := List.mem_map.mp h
        obtain ⟨q1, q2⟩ := prs_lt g hg q h1
        have e1 : a % 16 = q := by omega
        have e2 : a % 4 = q % 4 := by omega
        exact ⟨by omega, Or.inr (Or.inr ⟨x2, by rw [e1, e2]; exact q2⟩)⟩
      · simp at h
theorem OL_ld {ar : Nat → Int32} {n a : Nat} (n4 : n ≤ 4) (h : a ∈ OL ar n) : Ld ar n a := by
  obtain ⟨g, h1, h2⟩ := List.mem_flatMap.mp h
  obtain ⟨s, h3, h4⟩ := List.mem_flatMap.mp h2
  have g5 := List.mem_range.mp h1
  have s8 := List.mem_range.mp h3
  obtain ⟨e, hh⟩ := seg_in (by omega) h4
  refine ⟨s, a % 16 / 4, a % 4, s8, by omega, ?_⟩
  rcases hh with ⟨x, y, z⟩ | ⟨x, y, z⟩ | ⟨x, y⟩
  · exact Or.inl ⟨x, by omega, by omega⟩
  · exact Or.inr (Or.inl ⟨x, by omega, by omega⟩)
  · exact Or.inr (Or.inr ⟨x, by omega, by omega⟩)
theorem ld_OL {ar : Nat → Int32} {n a : Nat} (n4 : n ≤ 4) (h : Ld ar n a) : a ∈ OL ar n := by
  obtain ⟨s, i, j, s8, e, hh⟩ := h
  have key : ∀ g, g ≤ n → a ∈ seg (ar s) g s → a ∈ OL ar n := fun g hg hs => List.mem_flatMap.mpr ⟨g, List.mem_range.mpr (by omega), List.mem_flatMap.mpr ⟨s, List.mem_range.mpr s8, hs⟩⟩
  rcases hh with ⟨x, y, z⟩ | ⟨x, y, z⟩ | ⟨x, y, z⟩
  · refine key 0 (by omega) ?_
    unfold seg
    rw [if_pos x, if_pos rfl, e, y, z]
    simp
  · refine key (i + 1) (by omega) ?_
    unfold seg
    rw [x, if_neg (by decide), if_pos rfl, if_neg (by omega), e, z]
    simp
  · refine key (max i j + 1) (by omega) ?_
    unfold seg
    rw [x, if_neg (by decide), if_neg (by decide), if_pos rfl, e]
    exact List.mem_map.mpr ⟨4 * i + j, prs_in i (by omega) j (by omega), by omega⟩
theorem seg_nd {x : Int32} {g s : Nat} (hg : g < 5) : (seg x g s).Nodup := by
  unfold seg
  split
  · split
    · simp
    · exact List.nodup_nil
  · split
    · split
      · exact List.nodup_nil
      · simp
    · split
      · have := prs_nd g hg
        unfold List.Nodup at this ⊢
        rw [List.pairwise_map]
        exact this.imp (fun h q => h (by omega))
      · exact List.nodup_nil
theorem OL_nd {ar : Nat → Int32} {n : Nat} (n4 : n ≤ 4) : (OL ar n).Nodup := by
  have rg : ∀ k, (List.range k).Pairwise (· < ·) := fun k => List.pairwise_lt_range
  have hg : ∀ g, g < 5 → (OLg ar g).Nodup := by
    intro g g5
    unfold OLg List.Nodup
    rw [List.pairwise_flatMap]
    refine ⟨fun s _ => seg_nd g5, (rg 8).imp (fun {s1 s2} h a h1 b h2 q => ?_)⟩
    have e1 := (seg_in g5 h1).1
    have e2 := (seg_in g5 h2).1
    rw [q] at e1
    omega
  unfold OL List.Nodup
  rw [List.pairwise_flatMap]
  refine ⟨fun g hg1 => hg g (by have := List.mem_range.mp hg1; omega), List.Pairwise.imp_of_mem (R := (· < ·)) (fun {g1 g2} m1 m2 h a h1 b h2 q => ?_) (rg (n + 1))⟩
  obtain ⟨s1, m3, h3⟩ := List.mem_flatMap.mp h1
  obtain ⟨s2, m4, h4⟩ := List.mem_flatMap.mp h2
  have k1 := List.mem_range.mp m1
  have k2 := List.mem_range.mp m2
  obtain ⟨e1, f1⟩ := seg_in (by omega) h3
  obtain ⟨e2, f2⟩ := seg_in (by omega) h4
  rw [q] at e1 f1
  have es : s1 = s2 := by omega
  subst es
  have n01 : ¬ ((0 : Int32) = 1) := by decide
  have n02 : ¬ ((0 : Int32) = 2) := by decide
  have n12 : ¬ ((1 : Int32) = 2) := by decide
  rcases f1 with ⟨x1, y1, z1⟩ | ⟨x1, y1, z1⟩ | ⟨x1, y1⟩ <;> rcases f2 with ⟨x2, y2, z2⟩ | ⟨x2, y2, z2⟩ | ⟨x2, y2⟩
  · omega
  · exact n01 (x1.symm.trans x2)
  · exact n02 (x1.symm.trans x2)
  · exact n01 (x2.symm.trans x1)
  · omega
  · exact n12 (x1.symm.trans x2)
  · exact n02 (x2.symm.trans x1)
  · exact n12 (x2.symm.trans x1)
  · omega
theorem seg_len : ∀ (n : Nat), n ≤ 4 → ∀ (x : Int32) (s : Nat), ((List.range (n + 1)).map (fun g => (seg x g s).length)).sum ≤ 16 := by
  intro n hn x s
  have e : ∀ g, (seg x g s).length = (seg x g 0).length := by
    intro g
    unfold seg
    split
    · split <;> rfl
    · split
      · split <;> rfl
      · split
        · rw [List.length_map, List.length_map]
        · rfl
  have e2 : (fun g => (seg x g s).length) = (fun g => (seg x g 0).length) := funext e
  rw [e2]
  by_cases h0 : x = 0
  · rw [h0]
    have : ∀ n, n < 5 → ((List.range (n + 1)).map (fun g => (seg 0 g 0).length)).sum ≤ 16 := by decide +kernel
    exact this n (by omega)
  · by_cases h1 : x = 1
    · rw [h1]
      have : ∀ n, n < 5 → ((List.range (n + 1)).map (fun g => (seg 1 g 0).length)).sum ≤ 16 := by decide +kernel
      exact this n (by omega)
    · by_cases h2 : x = 2
      · rw [h2]
        have : ∀ n, n < 5 → ((List.range (n + 1)).map (fun g => (seg 2 g 0).length)).sum ≤ 16 := by decide +kernel
        exact this n (by omega)
      · have z : ∀ g, (seg x g 0).length = 0 := by
          intro g
          unfold seg
          rw [if_neg h0, if_neg h1, if_neg h2]
          rfl
        have e3 : (fun g => (seg x g 0).length) = (fun _ => 0) := funext z
        rw [e3]
        have : ∀ n, n < 5 → ((List.range (n + 1)).map (fun _ => 0)).sum ≤ 16 := by decide +kernel
        exact this n (by omega)
theorem OL_len {ar : Nat → Int32} {n : Nat} (n4 : n ≤ 4) : (OL ar n).length ≤ 128 := by
  have h0 := seg_len n n4 (ar 0) 0
  have h1 := seg_len n n4 (ar 1) 1
  have h2 := seg_len n n4 (ar 2) 2
  have h3 := seg_len n n4 (ar 3) 3
  have h4 := seg_len n n4 (ar 4) 4
  have h5 := seg_len n n4 (ar 5) 5
  have h6 := seg_len n n4 (ar 6) 6
  have h7 := seg_len n n4 (ar 7) 7
  have eg : ∀ g, (OLg ar g).length = (seg (ar 0) g 0).length + (seg (ar 1) g 1).length + (seg (ar 2) g 2).length + (seg (ar 3) g 3).length + (seg (ar 4) g 4).length + (seg (ar 5) g 5).length + (seg (ar 6) g 6).length + (seg (ar 7) g 7).length := by
    intro g
    unfold OLg
    rw [show List.range 8 = [0, 1, 2, 3, 4, 5, 6, 7] from by decide]
    simp only [List.flatMap_cons, List.flatMap_nil, List.length_append, List.length_nil]
    omega
  have sum : ∀ k, ((List.range k).flatMap (OLg ar)).length = ((List.range k).map (fun g => (seg (ar 0) g 0).length)).sum + ((List.range k).map (fun g => (seg (ar 1) g 1).length)).sum + ((List.range k).map (fun g => (seg (ar 2) g 2).length)).sum + ((List.range k).map (fun g => (seg (ar 3) g 3).length)).sum + ((List.range k).map (fun g => (seg (ar 4) g 4).length)).sum + ((List.range k).map (fun g => (seg (ar 5) g 5).length)).sum + ((List.range k).map (fun g => (seg (ar 6) g 6).length)).sum + ((List.range k).map (fun g => (seg (ar 7) g 7).length)).sum := by
    intro k
    induction k with
    | zero => rfl
    | succ k ih =>
      rw [List.range_succ]
      simp only [List.flatMap_append, List.flatMap_cons, List.flatMap_nil, List.length_append, List.length_nil, List.map_append, List.map_cons, List.map_nil, List.sum_append, List.sum_cons, List.sum_nil]
      rw [ih, eg k]
      omega
  unfold OL
  rw [sum]
  omega
def od (ar : Nat → Int32) (n k : Nat) : Nat := (OL ar n).getD k 0
theorem OL_OK {ar : Nat → Int32} {n : Nat} (n4 : n ≤ 4) : OK ar n (od ar n) (OL ar n).length := by
  have gd : ∀ k (h : k < (OL ar n).length), od ar n k = (OL ar n)[k] := fun k h => by simp [od, List.getD, h]
  refine ⟨OL_len n4, fun k hk => ?_, fun a ha => ?_, fun k j hk hj e => ?_⟩
  · rw [gd k hk]
    exact OL_ld n4 (List.getElem_mem hk)
  · obtain ⟨k, hk, e⟩ := List.getElem_of_mem (ld_OL n4 ha)
    exact ⟨k, hk, by rw [gd k hk]; exact e⟩
  · rw [gd k hk, gd j hj] at e
    have nd := OL_nd (ar := ar) (n := n) n4
    unfold List.Nodup at nd
    rw [List.pairwise_iff_getElem] at nd
    rcases Nat.lt_trichotomy k j with q | q | q
    · exact absurd e (nd k j hk hj q)
    · exact q
    · exact absurd e.symm (nd j k hj hk q)
