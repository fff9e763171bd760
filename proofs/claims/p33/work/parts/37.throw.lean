/-! the class's calls that throw for their filter, their fingerprint, their times, their slot; by gen (rows by walk.py) -/
theorem m38t {hs : amH} {q : Nat → Nat} {g : Nat → Nat → Nat} {p0 : Int32} {v1 : Int32} (h : CS hs q g) (hp : ¬ inR p0 4) : ClO 38 [.ref 1, .int p0, .int v1] hs (.inr 1) q g := by
  have x1 := h.1
  refine clo_mk ow38 (Nat.le_of_ble_eq_true rfl) ?_
  refine eq_ (fun _ k => ev_aload_n f38_0 rfl k) ?_
  refine eq_ (fun _ k => ev_iload_n f38_1 rfl k) ?_
  refine ⟨_, ev_vt1 f38_2 ow67 (by assumption) rfl (Nat.le_of_ble_eq_true rfl) (c67t h hp) rfl rfl, ?_⟩
  exact ⟨hs, rfl, h, Fr.refl⟩
theorem m39t {hs : amH} {q : Nat → Nat} {g : Nat → Nat → Nat} {p0 : Int32} {v1 : Int32} (h : CS hs q g) (hp : ¬ inR p0 4) : ClO 39 [.ref 1, .int p0, .int v1] hs (.inr 1) q g := by
  have x1 := h.1
  refine clo_mk ow39 (Nat.le_of_ble_eq_true rfl) ?_
  refine eq_ (fun _ k => ev_aload_n f39_0 rfl k) ?_
  refine eq_ (fun _ k => ev_iload_n f39_1 rfl k) ?_
  refine ⟨_, ev_vt1 f39_2 ow67 (by assumption) rfl (Nat.le_of_ble_eq_true rfl) (c67t h hp) rfl rfl, ?_⟩
  exact ⟨hs, rfl, h, Fr.refl⟩
theorem m40t {hs : amH} {q : Nat → Nat} {g : Nat → Nat → Nat} {p0 : Int32} {v1 : Int32} (h : CS hs q g) (hp : ¬ inR p0 4) : ClO 40 [.ref 1, .int p0, .int v1] hs (.inr 1) q g := by
  have x1 := h.1
  refine clo_mk ow40 (Nat.le_of_ble_eq_true rfl) ?_
  refine eq_ (fun _ k => ev_aload_n f40_0 rfl k) ?_
  refine eq_ (fun _ k => ev_iload_n f40_1 rfl k) ?_
  refine ⟨_, ev_vt1 f40_2 ow67 (by assumption) rfl (Nat.le_of_ble_eq_true rfl) (c67t h hp) rfl rfl, ?_⟩
  exact ⟨hs, rfl, h, Fr.refl⟩
theorem m41t {hs : amH} {q : Nat → Nat} {g : Nat → Nat → Nat} {p0 : Int32} {v1 v2 : Int32} (h : CS hs q g) (hp : ¬ inR p0 4) : ClO 41 [.ref 1, .int p0, .int v1, .int v2] hs (.inr 1) q g := by
  have x1 := h.1
  refine clo_mk ow41 (Nat.le_of_ble_eq_true rfl) ?_
  refine eq_ (fun _ k => ev_aload_n f41_0 rfl k) ?_
  refine eq_ (fun _ k => ev_iload_n f41_1 rfl k) ?_
  refine ⟨_, ev_vt1 f41_2 ow67 (by assumption) rfl (Nat.le_of_ble_eq_true rfl) (c67t h hp) rfl rfl, ?_⟩
  exact ⟨hs, rfl, h, Fr.refl⟩
theorem m42t {hs : amH} {q : Nat → Nat} {g : Nat → Nat → Nat} {p0 : Int32} {v1 v2 : Int32} (h : CS hs q g) (hp : ¬ inR p0 4) : ClO 42 [.ref 1, .int p0, .int v1, .int v2] hs (.inr 1) q g := by
  have x1 := h.1
  refine clo_mk ow42 (Nat.le_of_ble_eq_true rfl) ?_
  refine eq_ (fun _ k => ev_aload_n f42_0 rfl k) ?_
  refine eq_ (fun _ k => ev_iload_n f42_1 rfl k) ?_
  refine ⟨_, ev_vt1 f42_2 ow67 (by assumption) rfl (Nat.le_of_ble_eq_true rfl) (c67t h hp) rfl rfl, ?_⟩
  exact ⟨hs, rfl, h, Fr.refl⟩
theorem m43t {hs : amH} {q : Nat → Nat} {g : Nat → Nat → Nat} {p0 : Int32} {v1 : Int32} (h : CS hs q g) (hp : ¬ inR p0 4) : ClO 43 [.ref 1, .int p0, .int v1] hs (.inr 1) q g := by
  have x1 := h.1
  refine clo_mk ow43 (Nat.le_of_ble_eq_true rfl) ?_
  refine eq_ (fun _ k => ev_aload_n f43_0 rfl k) ?_
  refine eq_ (fun _ k => ev_iload_n f43_1 rfl k) ?_
  refine ⟨_, ev_vt1 f43_2 ow67 (by assumption) rfl (Nat.le_of_ble_eq_true rfl) (c67t h hp) rfl rfl, ?_⟩
  exact ⟨hs, rfl, h, Fr.refl⟩
theorem m44t {hs : amH} {q : Nat → Nat} {g : Nat → Nat → Nat} {p0 : Int32} {v1 : Int32} (h : CS hs q g) (hp : ¬ inR p0 4) : ClO 44 [.ref 1, .int p0, .int v1] hs (.inr 1) q g := by
  have x1 := h.1
  refine clo_mk ow44 (Nat.le_of_ble_eq_true rfl) ?_
  refine eq_ (fun _ k => ev_aload_n f44_0 rfl k) ?_
  refine eq_ (fun _ k => ev_iload_n f44_1 rfl k) ?_
  refine ⟨_, ev_vt1 f44_2 ow67 (by assumption) rfl (Nat.le_of_ble_eq_true rfl) (c67t h hp) rfl rfl, ?_⟩
  exact ⟨hs, rfl, h, Fr.refl⟩
theorem m45t {hs : amH} {q : Nat → Nat} {g : Nat → Nat → Nat} {p0 : Int32} {v1 : Int32} (h : CS hs q g) (hp : ¬ inR p0 4) : ClO 45 [.ref 1, .int p0, .int v1] hs (.inr 1) q g := by
  have x1 := h.1
  refine clo_mk ow45 (Nat.le_of_ble_eq_true rfl) ?_
  refine eq_ (fun _ k => ev_aload_n f45_0 rfl k) ?_
  refine eq_ (fun _ k => ev_iload_n f45_1 rfl k) ?_
  refine ⟨_, ev_vt1 f45_2 ow67 (by assumption) rfl (Nat.le_of_ble_eq_true rfl) (c67t h hp) rfl rfl, ?_⟩
  exact ⟨hs, rfl, h, Fr.refl⟩
theorem m46t {hs : amH} {q : Nat → Nat} {g : Nat → Nat → Nat} {p0 : Int32} (h : CS hs q g) (hp : ¬ inR p0 4) : ClO 46 [.ref 1, .int p0] hs (.inr 1) q g := by
  have x1 := h.1
  refine clo_mk ow46 (Nat.le_of_ble_eq_true rfl) ?_
  refine eq_ (fun _ k => ev_aload_n f46_0 rfl k) ?_
  refine eq_ (fun _ k => ev_iload_n f46_1 rfl k) ?_
  refine ⟨_, ev_vt1 f46_2 ow67 (by assumption) rfl (Nat.le_of_ble_eq_true rfl) (c67t h hp) rfl rfl, ?_⟩
  exact ⟨hs, rfl, h, Fr.refl⟩
theorem m47t {hs : amH} {q : Nat → Nat} {g : Nat → Nat → Nat} {p0 : Int32} (h : CS hs q g) (hp : ¬ inR p0 4) : ClO 47 [.ref 1, .int p0] hs (.inr 1) q g := by
  have x1 := h.1
  refine clo_mk ow47 (Nat.le_of_ble_eq_true rfl) ?_
  refine eq_ (fun _ k => ev_aload_n f47_0 rfl k) ?_
  refine eq_ (fun _ k => ev_iload_n f47_1 rfl k) ?_
  refine ⟨_, ev_vt1 f47_2 ow67 (by assumption) rfl (Nat.le_of_ble_eq_true rfl) (c67t h hp) rfl rfl, ?_⟩
  exact ⟨hs, rfl, h, Fr.refl⟩
theorem m48t {hs : amH} {q : Nat → Nat} {g : Nat → Nat → Nat} {p0 : Int32} (h : CS hs q g) (hp : ¬ inR p0 4) : ClO 48 [.ref 1, .int p0] hs (.inr 1) q g := by
  have x1 := h.1
  refine clo_mk ow48 (Nat.le_of_ble_eq_true rfl) ?_
  refine eq_ (fun _ k => ev_aload_n f48_0 rfl k) ?_
  refine eq_ (fun _ k => ev_iload_n f48_1 rfl k) ?_
  refine ⟨_, ev_vt1 f48_2 ow67 (by assumption) rfl (Nat.le_of_ble_eq_true rfl) (c67t h hp) rfl rfl, ?_⟩
  exact ⟨hs, rfl, h, Fr.refl⟩
theorem m49t {hs : amH} {q : Nat → Nat} {g : Nat → Nat → Nat} {p0 : Int32} {v1 : Int32} (h : CS hs q g) (hp : ¬ inR p0 4) : ClO 49 [.ref 1, .int p0, .int v1] hs (.inr 1) q g := by
  have x1 := h.1
  refine clo_mk ow49 (Nat.le_of_ble_eq_true rfl) ?_
  refine eq_ (fun _ k => ev_aload_n f49_0 rfl k) ?_
  refine eq_ (fun _ k => ev_iload_n f49_1 rfl k) ?_
  refine ⟨_, ev_vt1 f49_2 ow67 (by assumption) rfl (Nat.le_of_ble_eq_true rfl) (c67t h hp) rfl rfl, ?_⟩
  exact ⟨hs, rfl, h, Fr.refl⟩
theorem m50t {hs : amH} {q : Nat → Nat} {g : Nat → Nat → Nat} {p0 : Int32} {v1 : Int32} (h : CS hs q g) (hp : ¬ inR p0 4) : ClO 50 [.ref 1, .int p0, .int v1] hs (.inr 1) q g := by
  have x1 := h.1
  refine clo_mk ow50 (Nat.le_of_ble_eq_true rfl) ?_
  refine eq_ (fun _ k => ev_aload_n f50_0 rfl k) ?_
  refine eq_ (fun _ k => ev_iload_n f50_1 rfl k) ?_
  refine ⟨_, ev_vt1 f50_2 ow67 (by assumption) rfl (Nat.le_of_ble_eq_true rfl) (c67t h hp) rfl rfl, ?_⟩
  exact ⟨hs, rfl, h, Fr.refl⟩
theorem m51t {hs : amH} {q : Nat → Nat} {g : Nat → Nat → Nat} {p0 : Int32} {v1 : Int32} (h : CS hs q g) (hp : ¬ inR p0 4) : ClO 51 [.ref 1, .int p0, .int v1] hs (.inr 1) q g := by
  have x1 := h.1
  refine clo_mk ow51 (Nat.le_of_ble_eq_true rfl) ?_
  refine eq_ (fun _ k => ev_aload_n f51_0 rfl k) ?_
  refine eq_ (fun _ k => ev_iload_n f51_1 rfl k) ?_
  refine ⟨_, ev_vt1 f51_2 ow67 (by assumption) rfl (Nat.le_of_ble_eq_true rfl) (c67t h hp) rfl rfl, ?_⟩
  exact ⟨hs, rfl, h, Fr.refl⟩
theorem m52t {hs : amH} {q : Nat → Nat} {g : Nat → Nat → Nat} {p0 : Int32} (h : CS hs q g) (hp : ¬ inR p0 4) : ClO 52 [.ref 1, .int p0] hs (.inr 1) q g := by
  have x1 := h.1
  refine clo_mk ow52 (Nat.le_of_ble_eq_true rfl) ?_
  refine eq_ (fun _ k => ev_aload_n f52_0 rfl k) ?_
  refine eq_ (fun _ k => ev_iload_n f52_1 rfl k) ?_
  refine ⟨_, ev_vt1 f52_2 ow67 (by assumption) rfl (Nat.le_of_ble_eq_true rfl) (c67t h hp) rfl rfl, ?_⟩
  exact ⟨hs, rfl, h, Fr.refl⟩
theorem m53t {hs : amH} {q : Nat → Nat} {g : Nat → Nat → Nat} {p0 : Int32} (h : CS hs q g) (hp : ¬ inR p0 4) : ClO 53 [.ref 1, .int p0] hs (.inr 1) q g := by
  have x1 := h.1
  refine clo_mk ow53 (Nat.le_of_ble_eq_true rfl) ?_
  refine eq_ (fun _ k => ev_aload_n f53_0 rfl k) ?_
  refine eq_ (fun _ k => ev_iload_n f53_1 rfl k) ?_
  refine ⟨_, ev_vt1 f53_2 ow67 (by assumption) rfl (Nat.le_of_ble_eq_true rfl) (c67t h hp) rfl rfl, ?_⟩
  exact ⟨hs, rfl, h, Fr.refl⟩
theorem m54t {hs : amH} {q : Nat → Nat} {g : Nat → Nat → Nat} {p0 : Int32} (h : CS hs q g) (hp : ¬ inR p0 4) : ClO 54 [.ref 1, .int p0] hs (.inr 1) q g := by
  have x1 := h.1
  refine clo_mk ow54 (Nat.le_of_ble_eq_true rfl) ?_
  refine eq_ (fun _ k => ev_aload_n f54_0 rfl k) ?_
  refine eq_ (fun _ k => ev_iload_n f54_1 rfl k) ?_
  refine ⟨_, ev_vt1 f54_2 ow67 (by assumption) rfl (Nat.le_of_ble_eq_true rfl) (c67t h hp) rfl rfl, ?_⟩
  exact ⟨hs, rfl, h, Fr.refl⟩
theorem m55t {hs : amH} {q : Nat → Nat} {g : Nat → Nat → Nat} {p0 : Int32} (h : CS hs q g) (hp : ¬ inR p0 4) : ClO 55 [.ref 1, .int p0] hs (.inr 1) q g := by
  have x1 := h.1
  refine clo_mk ow55 (Nat.le_of_ble_eq_true rfl) ?_
  refine eq_ (fun _ k => ev_aload_n f55_0 rfl k) ?_
  refine eq_ (fun _ k => ev_iload_n f55_1 rfl k) ?_
  refine ⟨_, ev_vt1 f55_2 ow67 (by assumption) rfl (Nat.le_of_ble_eq_true rfl) (c67t h hp) rfl rfl, ?_⟩
  exact ⟨hs, rfl, h, Fr.refl⟩
theorem m56t {hs : amH} {q : Nat → Nat} {g : Nat → Nat → Nat} {p0 : Int32} {v1 : Int32} (h : CS hs q g) (hp : ¬ inR p0 4) : ClO 56 [.ref 1, .int p0, .int v1] hs (.inr 1) q g := by
  have x1 := h.1
  refine clo_mk ow56 (Nat.le_of_ble_eq_true rfl) ?_
  refine eq_ (fun _ k => ev_aload_n f56_0 rfl k) ?_
  refine eq_ (fun _ k => ev_iload_n f56_1 rfl k) ?_
  refine ⟨_, ev_vt1 f56_2 ow67 (by assumption) rfl (Nat.le_of_ble_eq_true rfl) (c67t h hp) rfl rfl, ?_⟩
  exact ⟨hs, rfl, h, Fr.refl⟩
theorem m57t {hs : amH} {q : Nat → Nat} {g : Nat → Nat → Nat} {p0 : Int32} {v1 : Int32} (h : CS hs q g) (hp : ¬ inR p0 4) : ClO 57 [.ref 1, .int p0, .int v1] hs (.inr 1) q g := by
  have x1 := h.1
  refine clo_mk ow57 (Nat.le_of_ble_eq_true rfl) ?_
  refine eq_ (fun _ k => ev_aload_n f57_0 rfl k) ?_
  refine eq_ (fun _ k => ev_iload_n f57_1 rfl k) ?_
  refine ⟨_, ev_vt1 f57_2 ow67 (by assumption) rfl (Nat.le_of_ble_eq_true rfl) (c67t h hp) rfl rfl, ?_⟩
  exact ⟨hs, rfl, h, Fr.refl⟩
theorem m58t {hs : amH} {q : Nat → Nat} {g : Nat → Nat → Nat} {p0 : Int32} {v1 : Int32} (h : CS hs q g) (hp : ¬ inR p0 4) : ClO 58 [.ref 1, .int p0, .int v1] hs (.inr 1) q g := by
  have x1 := h.1
  refine clo_mk ow58 (Nat.le_of_ble_eq_true rfl) ?_
  refine eq_ (fun _ k => ev_aload_n f58_0 rfl k) ?_
  refine eq_ (fun _ k => ev_iload_n f58_1 rfl k) ?_
  refine ⟨_, ev_vt1 f58_2 ow67 (by assumption) rfl (Nat.le_of_ble_eq_true rfl) (c67t h hp) rfl rfl, ?_⟩
  exact ⟨hs, rfl, h, Fr.refl⟩
theorem m59t {hs : amH} {q : Nat → Nat} {g : Nat → Nat → Nat} {p0 : Int32} {v1 : Int32} (h : CS hs q g) (hp : ¬ inR p0 4) : ClO 59 [.ref 1, .int p0, .int v1] hs (.inr 1) q g := by
  have x1 := h.1
  refine clo_mk ow59 (Nat.le_of_ble_eq_true rfl) ?_
  refine eq_ (fun _ k => ev_aload_n f59_0 rfl k) ?_
  refine eq_ (fun _ k => ev_iload_n f59_1 rfl k) ?_
  refine ⟨_, ev_vt1 f59_2 ow67 (by assumption) rfl (Nat.le_of_ble_eq_true rfl) (c67t h hp) rfl rfl, ?_⟩
  exact ⟨hs, rfl, h, Fr.refl⟩
theorem m60t {hs : amH} {q : Nat → Nat} {g : Nat → Nat → Nat} {p0 : Int32} {v1 : Int32} (h : CS hs q g) (hp : ¬ inR p0 4) : ClO 60 [.ref 1, .int p0, .int v1] hs (.inr 1) q g := by
  have x1 := h.1
  refine clo_mk ow60 (Nat.le_of_ble_eq_true rfl) ?_
  refine eq_ (fun _ k => ev_aload_n f60_0 rfl k) ?_
  refine eq_ (fun _ k => ev_iload_n f60_1 rfl k) ?_
  refine ⟨_, ev_vt1 f60_2 ow67 (by assumption) rfl (Nat.le_of_ble_eq_true rfl) (c67t h hp) rfl rfl, ?_⟩
  exact ⟨hs, rfl, h, Fr.refl⟩
theorem m61t {hs : amH} {q : Nat → Nat} {g : Nat → Nat → Nat} {p0 : Int32} {v1 : Int32} (h : CS hs q g) (hp : ¬ inR p0 4) : ClO 61 [.ref 1, .int p0, .int v1] hs (.inr 1) q g := by
  have x1 := h.1
  refine clo_mk ow61 (Nat.le_of_ble_eq_true rfl) ?_
  refine eq_ (fun _ k => ev_aload_n f61_0 rfl k) ?_
  refine eq_ (fun _ k => ev_iload_n f61_1 rfl k) ?_
  refine ⟨_, ev_vt1 f61_2 ow67 (by assumption) rfl (Nat.le_of_ble_eq_true rfl) (c67t h hp) rfl rfl, ?_⟩
  exact ⟨hs, rfl, h, Fr.refl⟩
theorem m62t {hs : amH} {q : Nat → Nat} {g : Nat → Nat → Nat} {p0 : Int32} {v1 : Int32} (h : CS hs q g) (hp : ¬ inR p0 4) : ClO 62 [.ref 1, .int p0, .int v1] hs (.inr 1) q g := by
  have x1 := h.1
  refine clo_mk ow62 (Nat.le_of_ble_eq_true rfl) ?_
  refine eq_ (fun _ k => ev_aload_n f62_0 rfl k) ?_
  refine eq_ (fun _ k => ev_iload_n f62_1 rfl k) ?_
  refine ⟨_, ev_vt1 f62_2 ow67 (by assumption) rfl (Nat.le_of_ble_eq_true rfl) (c67t h hp) rfl rfl, ?_⟩
  exact ⟨hs, rfl, h, Fr.refl⟩
theorem m63t {hs : amH} {q : Nat → Nat} {g : Nat → Nat → Nat} {p0 : Int32} {v1 : Int32} (h : CS hs q g) (hp : ¬ inR p0 4) : ClO 63 [.ref 1, .int p0, .int v1] hs (.inr 1) q g := by
  have x1 := h.1
  refine clo_mk ow63 (Nat.le_of_ble_eq_true rfl) ?_
  refine eq_ (fun _ k => ev_aload_n f63_0 rfl k) ?_
  refine eq_ (fun _ k => ev_iload_n f63_1 rfl k) ?_
  refine ⟨_, ev_vt1 f63_2 ow67 (by assumption) rfl (Nat.le_of_ble_eq_true rfl) (c67t h hp) rfl rfl, ?_⟩
  exact ⟨hs, rfl, h, Fr.refl⟩
theorem m64t {hs : amH} {q : Nat → Nat} {g : Nat → Nat → Nat} {p0 : Int32} {v1 : Int32} (h : CS hs q g) (hp : ¬ inR p0 4) : ClO 64 [.ref 1, .int p0, .int v1] hs (.inr 1) q g := by
  have x1 := h.1
  refine clo_mk ow64 (Nat.le_of_ble_eq_true rfl) ?_
  refine eq_ (fun _ k => ev_aload_n f64_0 rfl k) ?_
  refine eq_ (fun _ k => ev_iload_n f64_1 rfl k) ?_
  refine ⟨_, ev_vt1 f64_2 ow67 (by assumption) rfl (Nat.le_of_ble_eq_true rfl) (c67t h hp) rfl rfl, ?_⟩
  exact ⟨hs, rfl, h, Fr.refl⟩
theorem m65t {hs : amH} {q : Nat → Nat} {g : Nat → Nat → Nat} {p0 : Int32} {v1 : Int32} (h : CS hs q g) (hp : ¬ inR p0 4) : ClO 65 [.ref 1, .int p0, .int v1] hs (.inr 1) q g := by
  have x1 := h.1
  refine clo_mk ow65 (Nat.le_of_ble_eq_true rfl) ?_
  refine eq_ (fun _ k => ev_aload_n f65_0 rfl k) ?_
  refine eq_ (fun _ k => ev_iload_n f65_1 rfl k) ?_
  refine ⟨_, ev_vt1 f65_2 ow67 (by assumption) rfl (Nat.le_of_ble_eq_true rfl) (c67t h hp) rfl rfl, ?_⟩
  exact ⟨hs, rfl, h, Fr.refl⟩
theorem m66t {hs : amH} {q : Nat → Nat} {g : Nat → Nat → Nat} {p0 : Int32} (h : CS hs q g) (hp : ¬ inR p0 4) : ClO 66 [.ref 1, .int p0] hs (.inr 1) q g := by
  have x1 := h.1
  refine clo_mk ow66 (Nat.le_of_ble_eq_true rfl) ?_
  refine eq_ (fun _ k => ev_aload_n f66_0 rfl k) ?_
  refine eq_ (fun _ k => ev_iload_n f66_1 rfl k) ?_
  refine ⟨_, ev_vt1 f66_2 ow67 (by assumption) rfl (Nat.le_of_ble_eq_true rfl) (c67t h hp) rfl rfl, ?_⟩
  exact ⟨hs, rfl, h, Fr.refl⟩
theorem m41f {hs : amH} {q : Nat → Nat} {g : Nat → Nat → Nat} {f : Nat} {v1 v2 : Int32} (h : CS hs q g) (hf : f < 4) (hp : ¬ inR v1 4096) : ClO 41 [.ref 1, .int (nI f), .int v1, .int v2] hs (.inr 3) q g := by
  have x1 := h.1
  refine clo_mk ow41 (Nat.le_of_ble_eq_true rfl) ?_
  refine eq_ (fun _ k => ev_aload_n f41_0 rfl k) ?_
  refine eq_ (fun _ k => ev_iload_n f41_1 rfl k) ?_
  refine eq_ (fun _ k => ev_v1 f41_2 ow67 (by assumption) rfl (Nat.le_of_ble_eq_true rfl) (c67 h hf) k) ?_
  refine eq_ (fun _ k => ev_astore f41_5 k) ?_
  refine eq_ (fun _ k => ev_iload_n f41_7 rfl k) ?_
  refine ⟨_, ev_st1 f41_8 ow69 rfl (Nat.le_of_ble_eq_true rfl) (c69t hp) rfl rfl, ?_⟩
  exact ⟨hs, rfl, h, Fr.refl⟩
theorem m42f {hs : amH} {q : Nat → Nat} {g : Nat → Nat → Nat} {f : Nat} {v1 v2 : Int32} (h : CS hs q g) (hf : f < 4) (hp : ¬ inR v1 4096) : ClO 42 [.ref 1, .int (nI f), .int v1, .int v2] hs (.inr 3) q g := by
  have x1 := h.1
  refine clo_mk ow42 (Nat.le_of_ble_eq_true rfl) ?_
  refine eq_ (fun _ k => ev_aload_n f42_0 rfl k) ?_
  refine eq_ (fun _ k => ev_iload_n f42_1 rfl k) ?_
  refine eq_ (fun _ k => ev_v1 f42_2 ow67 (by assumption) rfl (Nat.le_of_ble_eq_true rfl) (c67 h hf) k) ?_
  refine eq_ (fun _ k => ev_astore f42_5 k) ?_
  refine eq_ (fun _ k => ev_iload_n f42_7 rfl k) ?_
  refine ⟨_, ev_st1 f42_8 ow69 rfl (Nat.le_of_ble_eq_true rfl) (c69t hp) rfl rfl, ?_⟩
  exact ⟨hs, rfl, h, Fr.refl⟩
theorem m43f {hs : amH} {q : Nat → Nat} {g : Nat → Nat → Nat} {f : Nat} {v1 : Int32} (h : CS hs q g) (hf : f < 4) (hp : ¬ inR v1 4096) : ClO 43 [.ref 1, .int (nI f), .int v1] hs (.inr 3) q g := by
  have x1 := h.1
  refine clo_mk ow43 (Nat.le_of_ble_eq_true rfl) ?_
  refine eq_ (fun _ k => ev_aload_n f43_0 rfl k) ?_
  refine eq_ (fun _ k => ev_iload_n f43_1 rfl k) ?_
  refine eq_ (fun _ k => ev_v1 f43_2 ow67 (by assumption) rfl (Nat.le_of_ble_eq_true rfl) (c67 h hf) k) ?_
  refine eq_ (fun _ k => ev_astore_n f43_5 k) ?_
  refine eq_ (fun _ k => ev_iload_n f43_6 rfl k) ?_
  refine ⟨_, ev_st1 f43_7 ow69 rfl (Nat.le_of_ble_eq_true rfl) (c69t hp) rfl rfl, ?_⟩
  exact ⟨hs, rfl, h, Fr.refl⟩
theorem m44f {hs : amH} {q : Nat → Nat} {g : Nat → Nat → Nat} {f : Nat} {v1 : Int32} (h : CS hs q g) (hf : f < 4) (hp : ¬ inR v1 4096) : ClO 44 [.ref 1, .int (nI f), .int v1] hs (.inr 3) q g := by
  have x1 := h.1
  refine clo_mk ow44 (Nat.le_of_ble_eq_true rfl) ?_
  refine eq_ (fun _ k => ev_aload_n f44_0 rfl k) ?_
  refine eq_ (fun _ k => ev_iload_n f44_1 rfl k) ?_
  refine eq_ (fun _ k => ev_v1 f44_2 ow67 (by assumption) rfl (Nat.le_of_ble_eq_true rfl) (c67 h hf) k) ?_
  refine eq_ (fun _ k => ev_astore_n f44_5 k) ?_
  refine eq_ (fun _ k => ev_iload_n f44_6 rfl k) ?_
  refine ⟨_, ev_st1 f44_7 ow69 rfl (Nat.le_of_ble_eq_true rfl) (c69t hp) rfl rfl, ?_⟩
  exact ⟨hs, rfl, h, Fr.refl⟩
theorem m45f {hs : amH} {q : Nat → Nat} {g : Nat → Nat → Nat} {f : Nat} {v1 : Int32} (h : CS hs q g) (hf : f < 4) (hp : ¬ inR v1 4096) : ClO 45 [.ref 1, .int (nI f), .int v1] hs (.inr 3) q g := by
  have x1 := h.1
  refine clo_mk ow45 (Nat.le_of_ble_eq_true rfl) ?_
  refine eq_ (fun _ k => ev_aload_n f45_0 rfl k) ?_
  refine eq_ (fun _ k => ev_iload_n f45_1 rfl k) ?_
  refine eq_ (fun _ k => ev_v1 f45_2 ow67 (by assumption) rfl (Nat.le_of_ble_eq_true rfl) (c67 h hf) k) ?_
  refine eq_ (fun _ k => ev_astore_n f45_5 k) ?_
  refine eq_ (fun _ k => ev_iload_n f45_6 rfl k) ?_
  refine ⟨_, ev_st1 f45_7 ow69 rfl (Nat.le_of_ble_eq_true rfl) (c69t hp) rfl rfl, ?_⟩
  exact ⟨hs, rfl, h, Fr.refl⟩
theorem m41n {hs : amH} {q : Nat → Nat} {g : Nat → Nat → Nat} {f k : Nat} {v2 : Int32} (h : CS hs q g) (hf : f < 4) (hk : k < 4096) (hp : ¬ inT v2) : ClO 41 [.ref 1, .int (nI f), .int (nI k), .int v2] hs (.inr 3) q g := by
  have x1 := h.1
  refine clo_mk ow41 (Nat.le_of_ble_eq_true rfl) ?_
  refine eq_ (fun _ k => ev_aload_n f41_0 rfl k) ?_
  refine eq_ (fun _ k => ev_iload_n f41_1 rfl k) ?_
  refine eq_ (fun _ k => ev_v1 f41_2 ow67 (by assumption) rfl (Nat.le_of_ble_eq_true rfl) (c67 h hf) k) ?_
  refine eq_ (fun _ k => ev_astore f41_5 k) ?_
  refine eq_ (fun _ k => ev_iload_n f41_7 rfl k) ?_
  refine eq_ (fun _ k => ev_s1 f41_8 (by decide) ow69 rfl (Nat.le_of_ble_eq_true rfl) (c69 hk) k) ?_
  refine eq_ (fun _ k => ev_iload_n f41_11 rfl k) ?_
  refine ⟨_, ev_st1 f41_12 ow70 rfl (Nat.le_of_ble_eq_true rfl) (c70t hp) rfl rfl, ?_⟩
  exact ⟨hs, rfl, h, Fr.refl⟩
theorem m42n {hs : amH} {q : Nat → Nat} {g : Nat → Nat → Nat} {f k : Nat} {v2 : Int32} (h : CS hs q g) (hf : f < 4) (hk : k < 4096) (hp : ¬ inT v2) : ClO 42 [.ref 1, .int (nI f), .int (nI k), .int v2] hs (.inr 3) q g := by
  have x1 := h.1
  refine clo_mk ow42 (Nat.le_of_ble_eq_true rfl) ?_
  refine eq_ (fun _ k => ev_aload_n f42_0 rfl k) ?_
  refine eq_ (fun _ k => ev_iload_n f42_1 rfl k) ?_
  refine eq_ (fun _ k => ev_v1 f42_2 ow67 (by assumption) rfl (Nat.le_of_ble_eq_true rfl) (c67 h hf) k) ?_
  refine eq_ (fun _ k => ev_astore f42_5 k) ?_
  refine eq_ (fun _ k => ev_iload_n f42_7 rfl k) ?_
  refine eq_ (fun _ k => ev_s1 f42_8 (by decide) ow69 rfl (Nat.le_of_ble_eq_true rfl) (c69 hk) k) ?_
  refine eq_ (fun _ k => ev_iload_n f42_11 rfl k) ?_
  refine ⟨_, ev_st1 f42_12 ow70 rfl (Nat.le_of_ble_eq_true rfl) (c70t hp) rfl rfl, ?_⟩
  exact ⟨hs, rfl, h, Fr.refl⟩
theorem m49o {hs : amH} {q : Nat → Nat} {g : Nat → Nat → Nat} {f : Nat} {v1 : Int32} (h : CS hs q g) (hf : f < 4) (hp : ¬ inR v1 4) : ClO 49 [.ref 1, .int (nI f), .int v1] hs (.inr 1) q g := by
  have x1 := h.1
  refine clo_mk ow49 (Nat.le_of_ble_eq_true rfl) ?_
  refine eq_ (fun _ k => ev_aload_n f49_0 rfl k) ?_
  refine eq_ (fun _ k => ev_iload_n f49_1 rfl k) ?_
  refine eq_ (fun _ k => ev_v1 f49_2 ow67 (by assumption) rfl (Nat.le_of_ble_eq_true rfl) (c67 h hf) k) ?_
  refine eq_ (fun _ k => ev_astore_n f49_5 k) ?_
  refine eq_ (fun _ k => ev_aload_n f49_6 rfl k) ?_
  refine eq_ (fun _ k => ev_iload_n f49_7 rfl k) ?_
  refine ⟨_, ev_vt1 f49_8 ow67 (by assumption) rfl (Nat.le_of_ble_eq_true rfl) (c67t h hp) rfl rfl, ?_⟩
  exact ⟨hs, rfl, h, Fr.refl⟩
theorem m50o {hs : amH} {q : Nat → Nat} {g : Nat → Nat → Nat} {f : Nat} {v1 : Int32} (h : CS hs q g) (hf : f < 4) (hp : ¬ inR v1 4) : ClO 50 [.ref 1, .int (nI f), .int v1] hs (.inr 1) q g := by
  have x1 := h.1
  refine clo_mk ow50 (Nat.le_of_ble_eq_true rfl) ?_
  refine eq_ (fun _ k => ev_aload_n f50_0 rfl k) ?_
  refine eq_ (fun _ k => ev_iload_n f50_1 rfl k) ?_
  refine eq_ (fun _ k => ev_v1 f50_2 ow67 (by assumption) rfl (Nat.le_of_ble_eq_true rfl) (c67 h hf) k) ?_
  refine eq_ (fun _ k => ev_astore_n f50_5 k) ?_
  refine eq_ (fun _ k => ev_aload_n f50_6 rfl k) ?_
  refine eq_ (fun _ k => ev_iload_n f50_7 rfl k) ?_
  refine ⟨_, ev_vt1 f50_8 ow67 (by assumption) rfl (Nat.le_of_ble_eq_true rfl) (c67t h hp) rfl rfl, ?_⟩
  exact ⟨hs, rfl, h, Fr.refl⟩
theorem m51o {hs : amH} {q : Nat → Nat} {g : Nat → Nat → Nat} {f : Nat} {v1 : Int32} (h : CS hs q g) (hf : f < 4) (hp : ¬ inR v1 4) : ClO 51 [.ref 1, .int (nI f), .int v1] hs (.inr 1) q g := by
  have x1 := h.1
  refine clo_mk ow51 (Nat.le_of_ble_eq_true rfl) ?_
  refine eq_ (fun _ k => ev_aload_n f51_0 rfl k) ?_
  refine eq_ (fun _ k => ev_iload_n f51_1 rfl k) ?_
  refine eq_ (fun _ k => ev_v1 f51_2 ow67 (by assumption) rfl (Nat.le_of_ble_eq_true rfl) (c67 h hf) k) ?_
  refine eq_ (fun _ k => ev_astore_n f51_5 k) ?_
  refine eq_ (fun _ k => ev_aload_n f51_6 rfl k) ?_
  refine eq_ (fun _ k => ev_iload_n f51_7 rfl k) ?_
  refine ⟨_, ev_vt1 f51_8 ow67 (by assumption) rfl (Nat.le_of_ble_eq_true rfl) (c67t h hp) rfl rfl, ?_⟩
  exact ⟨hs, rfl, h, Fr.refl⟩
theorem m57s {hs : amH} {q : Nat → Nat} {g : Nat → Nat → Nat} {f : Nat} {v1 : Int32} (h : CS hs q g) (hf : f < 4) (hp : ¬ inR v1 (2 ^ q f)) : ClO 57 [.ref 1, .int (nI f), .int v1] hs (.inr 1) q g := by
  have x1 := h.1
  obtain ⟨T, t, -⟩ := (h.2.2.1 f hf).tab
  refine clo_mk ow57 (Nat.le_of_ble_eq_true rfl) ?_
  refine eq_ (fun _ k => ev_aload_n f57_0 rfl k) ?_
  refine eq_ (fun _ k => ev_iload_n f57_1 rfl k) ?_
  refine eq_ (fun _ k => ev_v1 f57_2 ow67 (by assumption) rfl (Nat.le_of_ble_eq_true rfl) (c67 h hf) k) ?_
  refine eq_ (fun _ k => ev_astore_n f57_5 k) ?_
  refine eq_ (fun _ k => ev_aload_n f57_6 rfl k) ?_
  refine eq_ (fun _ k => ev_iload_n f57_7 rfl k) ?_
  refine ⟨_, ev_st2 f57_8 ow68 rfl rfl (Nat.le_of_ble_eq_true rfl) (c68t t hp) rfl rfl, ?_⟩
  exact ⟨hs, rfl, h, Fr.refl⟩
theorem m58s {hs : amH} {q : Nat → Nat} {g : Nat → Nat → Nat} {f : Nat} {v1 : Int32} (h : CS hs q g) (hf : f < 4) (hp : ¬ inR v1 (2 ^ q f)) : ClO 58 [.ref 1, .int (nI f), .int v1] hs (.inr 1) q g := by
  have x1 := h.1
  obtain ⟨T, t, -⟩ := (h.2.2.1 f hf).tab
  refine clo_mk ow58 (Nat.le_of_ble_eq_true rfl) ?_
  refine eq_ (fun _ k => ev_aload_n f58_0 rfl k) ?_
  refine eq_ (fun _ k => ev_iload_n f58_1 rfl k) ?_
  refine eq_ (fun _ k => ev_v1 f58_2 ow67 (by assumption) rfl (Nat.le_of_ble_eq_true rfl) (c67 h hf) k) ?_
  refine eq_ (fun _ k => ev_astore_n f58_5 k) ?_
  refine eq_ (fun _ k => ev_aload_n f58_6 rfl k) ?_
  refine eq_ (fun _ k => ev_iload_n f58_7 rfl k) ?_
  refine ⟨_, ev_st2 f58_8 ow68 rfl rfl (Nat.le_of_ble_eq_true rfl) (c68t t hp) rfl rfl, ?_⟩
  exact ⟨hs, rfl, h, Fr.refl⟩
theorem m59s {hs : amH} {q : Nat → Nat} {g : Nat → Nat → Nat} {f : Nat} {v1 : Int32} (h : CS hs q g) (hf : f < 4) (hp : ¬ inR v1 (2 ^ q f)) : ClO 59 [.ref 1, .int (nI f), .int v1] hs (.inr 1) q g := by
  have x1 := h.1
  obtain ⟨T, t, -⟩ := (h.2.2.1 f hf).tab
  refine clo_mk ow59 (Nat.le_of_ble_eq_true rfl) ?_
  refine eq_ (fun _ k => ev_aload_n f59_0 rfl k) ?_
  refine eq_ (fun _ k => ev_iload_n f59_1 rfl k) ?_
  refine eq_ (fun _ k => ev_v1 f59_2 ow67 (by assumption) rfl (Nat.le_of_ble_eq_true rfl) (c67 h hf) k) ?_
  refine eq_ (fun _ k => ev_astore_n f59_5 k) ?_
  refine eq_ (fun _ k => ev_aload_n f59_6 rfl k) ?_
  refine eq_ (fun _ k => ev_iload_n f59_7 rfl k) ?_
  refine ⟨_, ev_st2 f59_8 ow68 rfl rfl (Nat.le_of_ble_eq_true rfl) (c68t t hp) rfl rfl, ?_⟩
  exact ⟨hs, rfl, h, Fr.refl⟩
theorem m60s {hs : amH} {q : Nat → Nat} {g : Nat → Nat → Nat} {f : Nat} {v1 : Int32} (h : CS hs q g) (hf : f < 4) (hp : ¬ inR v1 (2 ^ q f)) : ClO 60 [.ref 1, .int (nI f), .int v1] hs (.inr 1) q g := by
  have x1 := h.1
  obtain ⟨T, t, -⟩ := (h.2.2.1 f hf).tab
  refine clo_mk ow60 (Nat.le_of_ble_eq_true rfl) ?_
  refine eq_ (fun _ k => ev_aload_n f60_0 rfl k) ?_
  refine eq_ (fun _ k => ev_iload_n f60_1 rfl k) ?_
  refine eq_ (fun _ k => ev_v1 f60_2 ow67 (by assumption) rfl (Nat.le_of_ble_eq_true rfl) (c67 h hf) k) ?_
  refine eq_ (fun _ k => ev_astore_n f60_5 k) ?_
  refine eq_ (fun _ k => ev_aload_n f60_6 rfl k) ?_
  refine eq_ (fun _ k => ev_iload_n f60_7 rfl k) ?_
  refine ⟨_, ev_st2 f60_8 ow68 rfl rfl (Nat.le_of_ble_eq_true rfl) (c68t t hp) rfl rfl, ?_⟩
  exact ⟨hs, rfl, h, Fr.refl⟩
theorem m61s {hs : amH} {q : Nat → Nat} {g : Nat → Nat → Nat} {f : Nat} {v1 : Int32} (h : CS hs q g) (hf : f < 4) (hp : ¬ inR v1 (2 ^ q f)) : ClO 61 [.ref 1, .int (nI f), .int v1] hs (.inr 1) q g := by
  have x1 := h.1
  obtain ⟨T, t, -⟩ := (h.2.2.1 f hf).tab
  refine clo_mk ow61 (Nat.le_of_ble_eq_true rfl) ?_
  refine eq_ (fun _ k => ev_aload_n f61_0 rfl k) ?_
  refine eq_ (fun _ k => ev_iload_n f61_1 rfl k) ?_
  refine eq_ (fun _ k => ev_v1 f61_2 ow67 (by assumption) rfl (Nat.le_of_ble_eq_true rfl) (c67 h hf) k) ?_
  refine eq_ (fun _ k => ev_astore_n f61_5 k) ?_
  refine eq_ (fun _ k => ev_aload_n f61_6 rfl k) ?_
  refine eq_ (fun _ k => ev_iload_n f61_7 rfl k) ?_
  refine ⟨_, ev_st2 f61_8 ow68 rfl rfl (Nat.le_of_ble_eq_true rfl) (c68t t hp) rfl rfl, ?_⟩
  exact ⟨hs, rfl, h, Fr.refl⟩
theorem m62s {hs : amH} {q : Nat → Nat} {g : Nat → Nat → Nat} {f : Nat} {v1 : Int32} (h : CS hs q g) (hf : f < 4) (hp : ¬ inR v1 (2 ^ q f)) : ClO 62 [.ref 1, .int (nI f), .int v1] hs (.inr 1) q g := by
  have x1 := h.1
  obtain ⟨T, t, -⟩ := (h.2.2.1 f hf).tab
  refine clo_mk ow62 (Nat.le_of_ble_eq_true rfl) ?_
  refine eq_ (fun _ k => ev_aload_n f62_0 rfl k) ?_
  refine eq_ (fun _ k => ev_iload_n f62_1 rfl k) ?_
  refine eq_ (fun _ k => ev_v1 f62_2 ow67 (by assumption) rfl (Nat.le_of_ble_eq_true rfl) (c67 h hf) k) ?_
  refine eq_ (fun _ k => ev_astore_n f62_5 k) ?_
  refine eq_ (fun _ k => ev_aload_n f62_6 rfl k) ?_
  refine eq_ (fun _ k => ev_iload_n f62_7 rfl k) ?_
  refine ⟨_, ev_st2 f62_8 ow68 rfl rfl (Nat.le_of_ble_eq_true rfl) (c68t t hp) rfl rfl, ?_⟩
  exact ⟨hs, rfl, h, Fr.refl⟩
theorem m63s {hs : amH} {q : Nat → Nat} {g : Nat → Nat → Nat} {f : Nat} {v1 : Int32} (h : CS hs q g) (hf : f < 4) (hp : ¬ inR v1 (2 ^ q f)) : ClO 63 [.ref 1, .int (nI f), .int v1] hs (.inr 1) q g := by
  have x1 := h.1
  obtain ⟨T, t, -⟩ := (h.2.2.1 f hf).tab
  refine clo_mk ow63 (Nat.le_of_ble_eq_true rfl) ?_
  refine eq_ (fun _ k => ev_aload_n f63_0 rfl k) ?_
  refine eq_ (fun _ k => ev_iload_n f63_1 rfl k) ?_
  refine eq_ (fun _ k => ev_v1 f63_2 ow67 (by assumption) rfl (Nat.le_of_ble_eq_true rfl) (c67 h hf) k) ?_
  refine eq_ (fun _ k => ev_astore_n f63_5 k) ?_
  refine eq_ (fun _ k => ev_aload_n f63_6 rfl k) ?_
  refine eq_ (fun _ k => ev_iload_n f63_7 rfl k) ?_
  refine ⟨_, ev_st2 f63_8 ow68 rfl rfl (Nat.le_of_ble_eq_true rfl) (c68t t hp) rfl rfl, ?_⟩
  exact ⟨hs, rfl, h, Fr.refl⟩
theorem m64s {hs : amH} {q : Nat → Nat} {g : Nat → Nat → Nat} {f : Nat} {v1 : Int32} (h : CS hs q g) (hf : f < 4) (hp : ¬ inR v1 (2 ^ q f)) : ClO 64 [.ref 1, .int (nI f), .int v1] hs (.inr 1) q g := by
  have x1 := h.1
  obtain ⟨T, t, -⟩ := (h.2.2.1 f hf).tab
  refine clo_mk ow64 (Nat.le_of_ble_eq_true rfl) ?_
  refine eq_ (fun _ k => ev_aload_n f64_0 rfl k) ?_
  refine eq_ (fun _ k => ev_iload_n f64_1 rfl k) ?_
  refine eq_ (fun _ k => ev_v1 f64_2 ow67 (by assumption) rfl (Nat.le_of_ble_eq_true rfl) (c67 h hf) k) ?_
  refine eq_ (fun _ k => ev_astore_n f64_5 k) ?_
  refine eq_ (fun _ k => ev_aload_n f64_6 rfl k) ?_
  refine eq_ (fun _ k => ev_iload_n f64_7 rfl k) ?_
  refine ⟨_, ev_st2 f64_8 ow68 rfl rfl (Nat.le_of_ble_eq_true rfl) (c68t t hp) rfl rfl, ?_⟩
  exact ⟨hs, rfl, h, Fr.refl⟩
theorem m65s {hs : amH} {q : Nat → Nat} {g : Nat → Nat → Nat} {f : Nat} {v1 : Int32} (h : CS hs q g) (hf : f < 4) (hp : ¬ inR v1 (2 ^ q f)) : ClO 65 [.ref 1, .int (nI f), .int v1] hs (.inr 1) q g := by
  have x1 := h.1
  obtain ⟨T, t, -⟩ := (h.2.2.1 f hf).tab
  refine clo_mk ow65 (Nat.le_of_ble_eq_true rfl) ?_
  refine eq_ (fun _ k => ev_aload_n f65_0 rfl k) ?_
  refine eq_ (fun _ k => ev_iload_n f65_1 rfl k) ?_
  refine eq_ (fun _ k => ev_v1 f65_2 ow67 (by assumption) rfl (Nat.le_of_ble_eq_true rfl) (c67 h hf) k) ?_
  refine eq_ (fun _ k => ev_astore_n f65_5 k) ?_
  refine eq_ (fun _ k => ev_aload_n f65_6 rfl k) ?_
  refine eq_ (fun _ k => ev_iload_n f65_7 rfl k) ?_
  refine ⟨_, ev_st2 f65_8 ow68 rfl rfl (Nat.le_of_ble_eq_true rfl) (c68t t hp) rfl rfl, ?_⟩
  exact ⟨hs, rfl, h, Fr.refl⟩
