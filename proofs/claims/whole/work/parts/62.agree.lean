/-! class and model answer alike, call by call; by hand -/
section AG
variable {hs : amH} {q : Nat → Nat} {g : Nat → Nat → Nat}
theorem a1 (h : CS hs q g) (v1 v2 : Int32) : AgrP 38 95 [.int v1, .int v2] K12 hs q g := by
  by_cases hp : inR v1 4
  · obtain ⟨f, hf, rfl⟩ := hp
    have k := m38 (key := v2) h hf
    have d := fun hs1 l (m : MS hs1 q g l) => d95 (key := v2) m h.mi hf
    by_cases hE : EE (putN (g f) (prN v2) 1) 4096 * 8 ≤ 7 * 2 ^ q f
    · simp only [if_pos hE] at k d
      exact Or.inl ⟨_, _, _, k, d⟩
    · simp only [if_neg hE] at k d
      exact Or.inr ⟨2, 2, _, by omega, by omega, Or.inr ⟨rfl, rfl⟩, k, d⟩
  · exact Or.inr ⟨1, 1, _, by omega, by omega, Or.inl ⟨rfl, rfl⟩, m38t h hp, fun hs1 l m => d95t m hp⟩
theorem a2 (h : CS hs q g) (v1 v2 : Int32) : AgrP 39 96 [.int v1, .int v2] K1 hs q g := by
  by_cases hp : inR v1 4
  · obtain ⟨f, hf, rfl⟩ := hp
    exact Or.inl ⟨_, _, _, m39 h hf, fun hs1 l m => d96 m h.mi hf⟩
  · exact Or.inr ⟨1, 1, _, by omega, by omega, ⟨rfl, rfl⟩, m39t h hp, fun hs1 l m => d96t m hp⟩
theorem a3 (h : CS hs q g) (v1 v2 : Int32) : AgrP 40 97 [.int v1, .int v2] K1 hs q g := by
  by_cases hp : inR v1 4
  · obtain ⟨f, hf, rfl⟩ := hp
    exact Or.inl ⟨_, _, _, m40 h hf, fun hs1 l m => d97 m hf⟩
  · exact Or.inr ⟨1, 1, _, by omega, by omega, ⟨rfl, rfl⟩, m40t h hp, fun hs1 l m => d97t m hp⟩
theorem a4 (h : CS hs q g) (v1 v2 v3 : Int32) : AgrP 41 98 [.int v1, .int v2, .int v3] K132 hs q g := by
  by_cases hp : inR v1 4
  · obtain ⟨f, hf, rfl⟩ := hp
    by_cases hp2 : inR v2 4096
    · obtain ⟨k, hk, rfl⟩ := hp2
      by_cases hp3 : inT v3
      · obtain ⟨c, c1, c2, rfl⟩ := hp3
        have k1 := m41 h hf hk c1 c2
        have d := fun hs1 l (m : MS hs1 q g l) => d98 m h.mi hf hk c1 c2
        by_cases hE : EE (putN (g f) k c) 4096 * 8 ≤ 7 * 2 ^ q f
        · simp only [if_pos hE] at k1 d
          exact Or.inl ⟨_, _, _, k1, d⟩
        · simp only [if_neg hE] at k1 d
          exact Or.inr ⟨2, 3, _, by omega, by omega, Or.inr (Or.inr ⟨rfl, rfl⟩), k1, d⟩
      · exact Or.inr ⟨3, 2, _, by omega, by omega, Or.inr (Or.inl ⟨rfl, rfl⟩), m41n h hf hk hp3, fun hs1 l m => d98n m hf (fun w => hp3 w.2)⟩
    · exact Or.inr ⟨3, 2, _, by omega, by omega, Or.inr (Or.inl ⟨rfl, rfl⟩), m41f h hf hp2, fun hs1 l m => d98n m hf (fun w => hp2 w.1)⟩
  · exact Or.inr ⟨1, 1, _, by omega, by omega, Or.inl ⟨rfl, rfl⟩, m41t h hp, fun hs1 l m => d98t m hp⟩
theorem a5 (h : CS hs q g) (v1 v2 v3 : Int32) : AgrP 42 99 [.int v1, .int v2, .int v3] K13 hs q g := by
  by_cases hp : inR v1 4
  · obtain ⟨f, hf, rfl⟩ := hp
    by_cases hp2 : inR v2 4096
    · obtain ⟨k, hk, rfl⟩ := hp2
      by_cases hp3 : inT v3
      · obtain ⟨c, c1, c2, rfl⟩ := hp3
        exact Or.inl ⟨_, _, _, m42 h hf hk c1 c2, fun hs1 l m => d99 m h.mi hf hk c1 c2⟩
      · exact Or.inr ⟨3, 2, _, by omega, by omega, Or.inr ⟨rfl, rfl⟩, m42n h hf hk hp3, fun hs1 l m => d99n m hf (fun w => hp3 w.2)⟩
    · exact Or.inr ⟨3, 2, _, by omega, by omega, Or.inr ⟨rfl, rfl⟩, m42f h hf hp2, fun hs1 l m => d99n m hf (fun w => hp2 w.1)⟩
  · exact Or.inr ⟨1, 1, _, by omega, by omega, Or.inl ⟨rfl, rfl⟩, m42t h hp, fun hs1 l m => d99t m hp⟩
theorem a6 (h : CS hs q g) (v1 v2 : Int32) : AgrP 43 100 [.int v1, .int v2] K13 hs q g := by
  by_cases hp : inR v1 4
  · obtain ⟨f, hf, rfl⟩ := hp
    by_cases hp2 : inR v2 4096
    · obtain ⟨k, hk, rfl⟩ := hp2
      exact Or.inl ⟨_, _, _, m43 h hf hk, fun hs1 l m => d100 m hf hk⟩
    · exact Or.inr ⟨3, 2, _, by omega, by omega, Or.inr ⟨rfl, rfl⟩, m43f h hf hp2, fun hs1 l m => d100n m hf hp2⟩
  · exact Or.inr ⟨1, 1, _, by omega, by omega, Or.inl ⟨rfl, rfl⟩, m43t h hp, fun hs1 l m => d100t m hp⟩
theorem a7 (h : CS hs q g) (v1 v2 : Int32) : AgrP 44 101 [.int v1, .int v2] K13 hs q g := by
  by_cases hp : inR v1 4
  · obtain ⟨f, hf, rfl⟩ := hp
    by_cases hp2 : inR v2 4096
    · obtain ⟨k, hk, rfl⟩ := hp2
      exact Or.inl ⟨_, _, _, m44 h hf hk, fun hs1 l m => d101 m (d100 m hf hk)⟩
    · exact Or.inr ⟨3, 2, _, by omega, by omega, Or.inr ⟨rfl, rfl⟩, m44f h hf hp2, fun hs1 l m => d101 m (d100n m hf hp2)⟩
  · exact Or.inr ⟨1, 1, _, by omega, by omega, Or.inl ⟨rfl, rfl⟩, m44t h hp, fun hs1 l m => d101 m (d100t m hp)⟩
theorem a8 (h : CS hs q g) (v1 v2 : Int32) : AgrP 45 102 [.int v1, .int v2] K13 hs q g := by
  by_cases hp : inR v1 4
  · obtain ⟨f, hf, rfl⟩ := hp
    by_cases hp2 : inR v2 4096
    · obtain ⟨k, hk, rfl⟩ := hp2
      exact Or.inl ⟨_, _, _, m45 h hf hk, fun hs1 l m => d102 m h.mi hf hk⟩
    · exact Or.inr ⟨3, 2, _, by omega, by omega, Or.inr ⟨rfl, rfl⟩, m45f h hf hp2, fun hs1 l m => d102n m hf hp2⟩
  · exact Or.inr ⟨1, 1, _, by omega, by omega, Or.inl ⟨rfl, rfl⟩, m45t h hp, fun hs1 l m => d102t m hp⟩
theorem a9 (h : CS hs q g) (v1 : Int32) : AgrV 46 103 [.int v1] K1 hs q g := by
  by_cases hp : inR v1 4
  · obtain ⟨f, hf, rfl⟩ := hp
    exact Or.inl ⟨_, _, m46 h hf, fun hs1 l m => d103 m h.mi hf⟩
  · exact Or.inr ⟨1, 1, by omega, by omega, ⟨rfl, rfl⟩, m46t h hp, fun hs1 l m => d103t m hp⟩
theorem a10 (h : CS hs q g) (v1 : Int32) : AgrP 47 104 [.int v1] K12 hs q g := by
  by_cases hp : inR v1 4
  · obtain ⟨f, hf, rfl⟩ := hp
    have k := m47 h hf
    have d := fun hs1 l (m : MS hs1 q g l) => d104 m h.mi hf
    by_cases hE : q f < 8
    · simp only [if_pos hE] at k d
      exact Or.inl ⟨_, _, _, k, d⟩
    · simp only [if_neg hE] at k d
      exact Or.inr ⟨2, 2, _, by omega, by omega, Or.inr ⟨rfl, rfl⟩, k, d⟩
  · exact Or.inr ⟨1, 1, _, by omega, by omega, Or.inl ⟨rfl, rfl⟩, m47t h hp, fun hs1 l m => d104t m hp⟩
theorem a11 (h : CS hs q g) (v1 : Int32) : AgrP 48 105 [.int v1] K12 hs q g := by
  by_cases hp : inR v1 4
  · obtain ⟨f, hf, rfl⟩ := hp
    have k := m48 h hf
    have d := fun hs1 l (m : MS hs1 q g l) => d105 m h.mi hf
    by_cases hE : 3 < q f ∧ EE (g f) 4096 * 8 ≤ 7 * 2 ^ (q f - 1)
    · simp only [if_pos hE] at k d
      exact Or.inl ⟨_, _, _, k, d⟩
    · simp only [if_neg hE] at k d
      exact Or.inr ⟨2, 2, _, by omega, by omega, Or.inr ⟨rfl, rfl⟩, k, d⟩
  · exact Or.inr ⟨1, 1, _, by omega, by omega, Or.inl ⟨rfl, rfl⟩, m48t h hp, fun hs1 l m => d105t m hp⟩
theorem a12 (h : CS hs q g) (v1 v2 : Int32) : AgrP 49 106 [.int v1, .int v2] K12 hs q g := by
  by_cases hp : inR v1 4
  · obtain ⟨f, hf, rfl⟩ := hp
    by_cases hp2 : inR v2 4
    · obtain ⟨e, he, rfl⟩ := hp2
      have k := m49 h hf he
      have d := fun hs1 l (m : MS hs1 q g l) => d106 m h.mi hf he
      by_cases hE : EE (suN (g f) (g e)) 4096 * 8 ≤ 7 * 2 ^ q f
      · simp only [if_pos hE] at k d
        exact Or.inl ⟨_, _, _, k, d⟩
      · simp only [if_neg hE] at k d
        exact Or.inr ⟨2, 2, _, by omega, by omega, Or.inr ⟨rfl, rfl⟩, k, d⟩
    · exact Or.inr ⟨1, 1, _, by omega, by omega, Or.inl ⟨rfl, rfl⟩, m49o h hf hp2, fun hs1 l m => d106t m (fun w => hp2 w.2)⟩
  · exact Or.inr ⟨1, 1, _, by omega, by omega, Or.inl ⟨rfl, rfl⟩, m49t h hp, fun hs1 l m => d106t m (fun w => hp w.1)⟩
theorem a13 (h : CS hs q g) (v1 v2 : Int32) : AgrP 50 107 [.int v1, .int v2] K1 hs q g := by
  by_cases hp : inR v1 4
  · obtain ⟨f, hf, rfl⟩ := hp
    by_cases hp2 : inR v2 4
    · obtain ⟨e, he, rfl⟩ := hp2
      exact Or.inl ⟨_, _, _, m50 h hf he, fun hs1 l m => d107 m h.mi hf he⟩
    · exact Or.inr ⟨1, 1, _, by omega, by omega, ⟨rfl, rfl⟩, m50o h hf hp2, fun hs1 l m => d107t m (fun w => hp2 w.2)⟩
  · exact Or.inr ⟨1, 1, _, by omega, by omega, ⟨rfl, rfl⟩, m50t h hp, fun hs1 l m => d107t m (fun w => hp w.1)⟩
theorem a14 (h : CS hs q g) (v1 v2 : Int32) : AgrP 51 108 [.int v1, .int v2] K1 hs q g := by
  by_cases hp : inR v1 4
  · obtain ⟨f, hf, rfl⟩ := hp
    by_cases hp2 : inR v2 4
    · obtain ⟨e, he, rfl⟩ := hp2
      obtain ⟨r, e1, k⟩ := m51 h hf he
      refine Or.inl ⟨_, _, _, k, fun hs1 l m => ?_⟩
      obtain ⟨r2, e2, k2⟩ := d108 m h.mi hf he
      have e3 : r2 = r := Bool.eq_iff_iff.mpr (e2.trans e1.symm)
      rw [e3] at k2
      exact k2
    · exact Or.inr ⟨1, 1, _, by omega, by omega, ⟨rfl, rfl⟩, m51o h hf hp2, fun hs1 l m => d108t m (fun w => hp2 w.2)⟩
  · exact Or.inr ⟨1, 1, _, by omega, by omega, ⟨rfl, rfl⟩, m51t h hp, fun hs1 l m => d108t m (fun w => hp w.1)⟩
theorem a15 (h : CS hs q g) (v1 : Int32) : AgrP 52 109 [.int v1] K1 hs q g := by
  by_cases hp : inR v1 4
  · obtain ⟨f, hf, rfl⟩ := hp
    exact Or.inl ⟨_, _, _, m52 h hf, fun hs1 l m => d109 m h.mi hf⟩
  · exact Or.inr ⟨1, 1, _, by omega, by omega, ⟨rfl, rfl⟩, m52t h hp, fun hs1 l m => d109t m hp⟩
theorem a16 (h : CS hs q g) (v1 : Int32) : AgrP 53 110 [.int v1] K1 hs q g := by
  by_cases hp : inR v1 4
  · obtain ⟨f, hf, rfl⟩ := hp
    exact Or.inl ⟨_, _, _, m53 h hf, fun hs1 l m => d110 m h.mi hf⟩
  · exact Or.inr ⟨1, 1, _, by omega, by omega, ⟨rfl, rfl⟩, m53t h hp, fun hs1 l m => d110t m hp⟩
theorem a17 (h : CS hs q g) (v1 : Int32) : AgrP 54 111 [.int v1] K1 hs q g := by
  by_cases hp : inR v1 4
  · obtain ⟨f, hf, rfl⟩ := hp
    exact Or.inl ⟨_, _, _, m54 h hf, fun hs1 l m => d111 m h.mi hf⟩
  · exact Or.inr ⟨1, 1, _, by omega, by omega, ⟨rfl, rfl⟩, m54t h hp, fun hs1 l m => d111t m hp⟩
theorem a18 (h : CS hs q g) (v1 : Int32) : AgrP 55 112 [.int v1] K1 hs q g := by
  by_cases hp : inR v1 4
  · obtain ⟨f, hf, rfl⟩ := hp
    exact Or.inl ⟨_, _, _, m55 h hf, fun hs1 l m => d112 m hf⟩
  · exact Or.inr ⟨1, 1, _, by omega, by omega, ⟨rfl, rfl⟩, m55t h hp, fun hs1 l m => d112t m hp⟩
theorem a19 (h : CS hs q g) (v1 v2 : Int32) : AgrP 56 113 [.int v1, .int v2] K1 hs q g := by
  by_cases hp : inR v1 4
  · obtain ⟨f, hf, rfl⟩ := hp
    by_cases hp2 : inR v2 (nzN (g f) 4096)
    · obtain ⟨p, hp3, rfl⟩ := hp2
      obtain ⟨k, hk, h0, rfl⟩ := nzN_inv (g f) 4096 p hp3
      exact Or.inl ⟨_, _, _, m56 h hf hk h0, fun hs1 l m => d113 m h.mi hf hk h0⟩
    · exact Or.inr ⟨1, 1, _, by omega, by omega, ⟨rfl, rfl⟩, m56p h hf hp2, fun hs1 l m => d113p m h.mi hf hp2⟩
  · exact Or.inr ⟨1, 1, _, by omega, by omega, ⟨rfl, rfl⟩, m56t h hp, fun hs1 l m => d113t m hp⟩
theorem a20 (h : CS hs q g) (v1 v2 : Int32) : AgrP 57 115 [.int v1, .int v2] K1 hs q g := by
  by_cases hp : inR v1 4
  · obtain ⟨f, hf, rfl⟩ := hp
    by_cases hp2 : inR v2 (2 ^ q f)
    · obtain ⟨s, hs2, rfl⟩ := hp2
      by_cases hex : ∃ k i, SlotE (2 ^ q f) (2 ^ (12 - q f)) (g f) s k i
      · obtain ⟨k, i, he⟩ := hex
        exact Or.inl ⟨_, _, _, m57 h hf hs2 he, fun hs1 l m => d115 m h.mi hf hs2 he⟩
      · have he : ∀ k i, ¬ SlotE (2 ^ q f) (2 ^ (12 - q f)) (g f) s k i := fun k i w => hex ⟨k, i, w⟩
        exact Or.inl ⟨_, _, _, m57n h hf hs2 he, fun hs1 l m => d115n m h.mi hf hs2 he⟩
    · exact Or.inr ⟨1, 1, _, by omega, by omega, ⟨rfl, rfl⟩, m57s h hf hp2, fun hs1 l m => d115s m h.mi hf hp2⟩
  · exact Or.inr ⟨1, 1, _, by omega, by omega, ⟨rfl, rfl⟩, m57t h hp, fun hs1 l m => d115t m hp⟩
theorem a21 (h : CS hs q g) (v1 v2 : Int32) : AgrP 58 116 [.int v1, .int v2] K1 hs q g := by
  by_cases hp : inR v1 4
  · obtain ⟨f, hf, rfl⟩ := hp
    by_cases hp2 : inR v2 (2 ^ q f)
    · obtain ⟨s, hs2, rfl⟩ := hp2
      by_cases hex : ∃ k i, SlotE (2 ^ q f) (2 ^ (12 - q f)) (g f) s k i
      · obtain ⟨k, i, he⟩ := hex
        exact Or.inl ⟨_, _, _, m58 h hf hs2 he, fun hs1 l m => d116 m h.mi hf hs2 he⟩
      · have he : ∀ k i, ¬ SlotE (2 ^ q f) (2 ^ (12 - q f)) (g f) s k i := fun k i w => hex ⟨k, i, w⟩
        exact Or.inl ⟨_, _, _, m58n h hf hs2 he, fun hs1 l m => d116n m h.mi hf hs2 he⟩
    · exact Or.inr ⟨1, 1, _, by omega, by omega, ⟨rfl, rfl⟩, m58s h hf hp2, fun hs1 l m => d116s m h.mi hf hp2⟩
  · exact Or.inr ⟨1, 1, _, by omega, by omega, ⟨rfl, rfl⟩, m58t h hp, fun hs1 l m => d116t m hp⟩
theorem a22 (h : CS hs q g) (v1 v2 : Int32) : AgrP 59 117 [.int v1, .int v2] K1 hs q g := by
  by_cases hp : inR v1 4
  · obtain ⟨f, hf, rfl⟩ := hp
    by_cases hp2 : inR v2 (2 ^ q f)
    · obtain ⟨s, hs2, rfl⟩ := hp2
      by_cases hex : ∃ k i, SlotE (2 ^ q f) (2 ^ (12 - q f)) (g f) s k i
      · obtain ⟨k, i, he⟩ := hex
        exact Or.inl ⟨_, _, _, m59 h hf hs2 he, fun hs1 l m => d117 m h.mi hf hs2 he⟩
      · have he : ∀ k i, ¬ SlotE (2 ^ q f) (2 ^ (12 - q f)) (g f) s k i := fun k i w => hex ⟨k, i, w⟩
        exact Or.inl ⟨_, _, _, m59n h hf hs2 he, fun hs1 l m => d117n m h.mi hf hs2 he⟩
    · exact Or.inr ⟨1, 1, _, by omega, by omega, ⟨rfl, rfl⟩, m59s h hf hp2, fun hs1 l m => d117s m h.mi hf hp2⟩
  · exact Or.inr ⟨1, 1, _, by omega, by omega, ⟨rfl, rfl⟩, m59t h hp, fun hs1 l m => d117t m hp⟩
theorem a24 (h : CS hs q g) (v1 v2 : Int32) : AgrP 61 119 [.int v1, .int v2] K1 hs q g := by
  by_cases hp : inR v1 4
  · obtain ⟨f, hf, rfl⟩ := hp
    by_cases hp2 : inR v2 (2 ^ q f)
    · obtain ⟨s, hs2, rfl⟩ := hp2
      by_cases hex : ∃ k i, SlotE (2 ^ q f) (2 ^ (12 - q f)) (g f) s k i
      · obtain ⟨k, i, he⟩ := hex
        exact Or.inl ⟨_, _, _, m61 h hf hs2 he, fun hs1 l m => d119 m h.mi hf hs2 he⟩
      · have he : ∀ k i, ¬ SlotE (2 ^ q f) (2 ^ (12 - q f)) (g f) s k i := fun k i w => hex ⟨k, i, w⟩
        exact Or.inl ⟨_, _, _, m61n h hf hs2 he, fun hs1 l m => d119n m h.mi hf hs2 he⟩
    · exact Or.inr ⟨1, 1, _, by omega, by omega, ⟨rfl, rfl⟩, m61s h hf hp2, fun hs1 l m => d119s m h.mi hf hp2⟩
  · exact Or.inr ⟨1, 1, _, by omega, by omega, ⟨rfl, rfl⟩, m61t h hp, fun hs1 l m => d119t m hp⟩
theorem a25 (h : CS hs q g) (v1 v2 : Int32) : AgrP 62 120 [.int v1, .int v2] K1 hs q g := by
  by_cases hp : inR v1 4
  · obtain ⟨f, hf, rfl⟩ := hp
    by_cases hp2 : inR v2 (2 ^ q f)
    · obtain ⟨s, hs2, rfl⟩ := hp2
      by_cases hex : ∃ k i, SlotE (2 ^ q f) (2 ^ (12 - q f)) (g f) s k i
      · obtain ⟨k, i, he⟩ := hex
        exact Or.inl ⟨_, _, _, m62 h hf hs2 he, fun hs1 l m => d120 m h.mi hf hs2 he⟩
      · have he : ∀ k i, ¬ SlotE (2 ^ q f) (2 ^ (12 - q f)) (g f) s k i := fun k i w => hex ⟨k, i, w⟩
        exact Or.inl ⟨_, _, _, m62n h hf hs2 he, fun hs1 l m => d120n m h.mi hf hs2 he⟩
    · exact Or.inr ⟨1, 1, _, by omega, by omega, ⟨rfl, rfl⟩, m62s h hf hp2, fun hs1 l m => d120s m h.mi hf hp2⟩
  · exact Or.inr ⟨1, 1, _, by omega, by omega, ⟨rfl, rfl⟩, m62t h hp, fun hs1 l m => d120t m hp⟩
theorem a23 (h : CS hs q g) (v1 v2 : Int32) : AgrP 60 118 [.int v1, .int v2] K1 hs q g := by
  by_cases hp : inR v1 4
  · obtain ⟨f, hf, rfl⟩ := hp
    by_cases hp2 : inR v2 (2 ^ q f)
    · obtain ⟨s, hs2, rfl⟩ := hp2
      exact Or.inl ⟨_, _, _, m60 h hf hs2, fun hs1 l m => d118 m h.mi hf hs2⟩
    · exact Or.inr ⟨1, 1, _, by omega, by omega, ⟨rfl, rfl⟩, m60s h hf hp2, fun hs1 l m => d118s m h.mi hf hp2⟩
  · exact Or.inr ⟨1, 1, _, by omega, by omega, ⟨rfl, rfl⟩, m60t h hp, fun hs1 l m => d118t m hp⟩
theorem a26 (h : CS hs q g) (v1 v2 : Int32) : AgrP 63 121 [.int v1, .int v2] K1 hs q g := by
  by_cases hp : inR v1 4
  · obtain ⟨f, hf, rfl⟩ := hp
    by_cases hp2 : inR v2 (2 ^ q f)
    · obtain ⟨s, hs2, rfl⟩ := hp2
      exact Or.inl ⟨_, _, _, m63 h hf hs2, fun hs1 l m => d121 m h.mi hf hs2⟩
    · exact Or.inr ⟨1, 1, _, by omega, by omega, ⟨rfl, rfl⟩, m63s h hf hp2, fun hs1 l m => d121s m h.mi hf hp2⟩
  · exact Or.inr ⟨1, 1, _, by omega, by omega, ⟨rfl, rfl⟩, m63t h hp, fun hs1 l m => d121t m hp⟩
theorem a27 (h : CS hs q g) (v1 v2 : Int32) : AgrP 64 122 [.int v1, .int v2] K1 hs q g := by
  by_cases hp : inR v1 4
  · obtain ⟨f, hf, rfl⟩ := hp
    by_cases hp2 : inR v2 (2 ^ q f)
    · obtain ⟨s, hs2, rfl⟩ := hp2
      exact Or.inl ⟨_, _, _, m64 h hf hs2, fun hs1 l m => d122 m h.mi hf hs2⟩
    · exact Or.inr ⟨1, 1, _, by omega, by omega, ⟨rfl, rfl⟩, m64s h hf hp2, fun hs1 l m => d122s m h.mi hf hp2⟩
  · exact Or.inr ⟨1, 1, _, by omega, by omega, ⟨rfl, rfl⟩, m64t h hp, fun hs1 l m => d122t m hp⟩
theorem a28 (h : CS hs q g) (v1 v2 : Int32) : AgrP 65 123 [.int v1, .int v2] K1 hs q g := by
  by_cases hp : inR v1 4
  · obtain ⟨f, hf, rfl⟩ := hp
    by_cases hp2 : inR v2 (2 ^ q f)
    · obtain ⟨s, hs2, rfl⟩ := hp2
      by_cases hex : ∃ k i, SlotE (2 ^ q f) (2 ^ (12 - q f)) (g f) s k i
      · obtain ⟨k, i, he⟩ := hex
        obtain ⟨hn, hm, hnm, hN, p2, o8⟩ := h.mi.fa hf
        have hl := lay_lin (n := 2 ^ q f) (m := 2 ^ (12 - q f)) (g := g f) hn hN
        obtain ⟨c, c1, c2, c3, c4⟩ := lp_cst hl (u := s + 2 ^ q f + 2 ^ q f) (by omega)
        exact Or.inl ⟨_, _, _, m65 h hf hs2 he c1 c2 c3 c4, fun hs1 l m => d123 m h.mi hf hs2 he c1 c2 c3 c4⟩
      · have he : ∀ k i, ¬ SlotE (2 ^ q f) (2 ^ (12 - q f)) (g f) s k i := fun k i w => hex ⟨k, i, w⟩
        exact Or.inl ⟨_, _, _, m65n h hf hs2 he, fun hs1 l m => d123n m h.mi hf hs2 he⟩
    · exact Or.inr ⟨1, 1, _, by omega, by omega, ⟨rfl, rfl⟩, m65s h hf hp2, fun hs1 l m => d123s m h.mi hf hp2⟩
  · exact Or.inr ⟨1, 1, _, by omega, by omega, ⟨rfl, rfl⟩, m65t h hp, fun hs1 l m => d123t m hp⟩
theorem a29 (h : CS hs q g) (v1 : Int32) : AgrP 66 124 [.int v1] K1 hs q g := by
  by_cases hp : inR v1 4
  · obtain ⟨f, hf, rfl⟩ := hp
    obtain ⟨hn, hm, hnm, hN, p2, o8⟩ := h.mi.fa hf
    obtain ⟨T, hT, k⟩ := m66 h hf
    have hV := ll_clm (lay_tab hn hm hN hT)
    exact Or.inl ⟨_, _, _, k, fun hs1 l m => d124 m h.mi hf hV⟩
  · exact Or.inr ⟨1, 1, _, by omega, by omega, ⟨rfl, rfl⟩, m66t h hp, fun hs1 l m => d124t m hp⟩
end AG
