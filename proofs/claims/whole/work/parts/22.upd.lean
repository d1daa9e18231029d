theorem wrAt (S : ST) (k i c j : Nat) (v : Int32) : (wr S k i v).1 c j = if c = k then (if j = i then v else S.1 c j) else S.1 c j := by
  unfold wr upd
  by_cases h : c = k <;> simp [h]
theorem updAt (d : Nat → Int32) (p j : Nat) (v : Int32) : upd d p v j = if j = p then v else d j := rfl
theorem SkyR.stars {b : Nat} {S : ST} {d : Nat → Int32}  {v : Int32} (h : SkyR b S d) : SkyR b (wr S b 0 v) (upd d (1) v) := by
  obtain ⟨a1, a2, a3, a4, a5, a6, a7, a8, a9, a10, a11, a12, a13⟩ := h
  refine ⟨?_, ?_, ?_, ?_, fun x hx => ?_, fun x hx => ?_, fun x hx => ?_, fun x hx => ?_, fun x hx => ?_, fun x hx => ?_, fun x hx => ?_, fun x hx => ?_, fun x hx => ?_⟩
  · rw [wrAt, updAt]; grind
  · rw [wrAt, updAt]; grind
  · rw [wrAt, updAt]; grind
  · rw [wrAt, updAt]; grind
  · have := a5 x hx; rw [wrAt, updAt]; grind
  · have := a6 x hx; rw [wrAt, updAt]; grind
  · have := a7 x hx; rw [wrAt, updAt]; grind
  · have := a8 x hx; rw [wrAt, updAt]; grind
  · have := a9 x hx; rw [wrAt, updAt]; grind
  · have := a10 x hx; rw [wrAt, updAt]; grind
  · have := a11 x hx; rw [wrAt, updAt]; grind
  · have := a12 x hx; rw [wrAt, updAt]; grind
  · have := a13 x hx; rw [wrAt, updAt]; grind
theorem SkyR.night {b : Nat} {S : ST} {d : Nat → Int32}  {v : Int32} (h : SkyR b S d) : SkyR b (wr S b 8 v) (upd d (0) v) := by
  obtain ⟨a1, a2, a3, a4, a5, a6, a7, a8, a9, a10, a11, a12, a13⟩ := h
  refine ⟨?_, ?_, ?_, ?_, fun x hx => ?_, fun x hx => ?_, fun x hx => ?_, fun x hx => ?_, fun x hx => ?_, fun x hx => ?_, fun x hx => ?_, fun x hx => ?_, fun x hx => ?_⟩
  · rw [wrAt, updAt]; grind
  · rw [wrAt, updAt]; grind
  · rw [wrAt, updAt]; grind
  · rw [wrAt, updAt]; grind
  · have := a5 x hx; rw [wrAt, updAt]; grind
  · have := a6 x hx; rw [wrAt, updAt]; grind
  · have := a7 x hx; rw [wrAt, updAt]; grind
  · have := a8 x hx; rw [wrAt, updAt]; grind
  · have := a9 x hx; rw [wrAt, updAt]; grind
  · have := a10 x hx; rw [wrAt, updAt]; grind
  · have := a11 x hx; rw [wrAt, updAt]; grind
  · have := a12 x hx; rw [wrAt, updAt]; grind
  · have := a13 x hx; rw [wrAt, updAt]; grind
theorem SkyR.signs {b : Nat} {S : ST} {d : Nat → Int32}  {v : Int32} (h : SkyR b S d) : SkyR b (wr S b 9 v) (upd d (2) v) := by
  obtain ⟨a1, a2, a3, a4, a5, a6, a7, a8, a9, a10, a11, a12, a13⟩ := h
  refine ⟨?_, ?_, ?_, ?_, fun x hx => ?_, fun x hx => ?_, fun x hx => ?_, fun x hx => ?_, fun x hx => ?_, fun x hx => ?_, fun x hx => ?_, fun x hx => ?_, fun x hx => ?_⟩
  · rw [wrAt, updAt]; grind
  · rw [wrAt, updAt]; grind
  · rw [wrAt, updAt]; grind
  · rw [wrAt, updAt]; grind
  · have := a5 x hx; rw [wrAt, updAt]; grind
  · have := a6 x hx; rw [wrAt, updAt]; grind
  · have := a7 x hx; rw [wrAt, updAt]; grind
  · have := a8 x hx; rw [wrAt, updAt]; grind
  · have := a9 x hx; rw [wrAt, updAt]; grind
  · have := a10 x hx; rw [wrAt, updAt]; grind
  · have := a11 x hx; rw [wrAt, updAt]; grind
  · have := a12 x hx; rw [wrAt, updAt]; grind
  · have := a13 x hx; rw [wrAt, updAt]; grind
theorem SkyR.z {b : Nat} {S : ST} {d : Nat → Int32}  {v : Int32} (h : SkyR b S d) : SkyR b (wr S b 12 v) (upd d (3) v) := by
  obtain ⟨a1, a2, a3, a4, a5, a6, a7, a8, a9, a10, a11, a12, a13⟩ := h
  refine ⟨?_, ?_, ?_, ?_, fun x hx => ?_, fun x hx => ?_, fun x hx => ?_, fun x hx => ?_, fun x hx => ?_, fun x hx => ?_, fun x hx => ?_, fun x hx => ?_, fun x hx => ?_⟩
  · rw [wrAt, updAt]; grind
  · rw [wrAt, updAt]; grind
  · rw [wrAt, updAt]; grind
  · rw [wrAt, updAt]; grind
  · have := a5 x hx; rw [wrAt, updAt]; grind
  · have := a6 x hx; rw [wrAt, updAt]; grind
  · have := a7 x hx; rw [wrAt, updAt]; grind
  · have := a8 x hx; rw [wrAt, updAt]; grind
  · have := a9 x hx; rw [wrAt, updAt]; grind
  · have := a10 x hx; rw [wrAt, updAt]; grind
  · have := a11 x hx; rw [wrAt, updAt]; grind
  · have := a12 x hx; rw [wrAt, updAt]; grind
  · have := a13 x hx; rw [wrAt, updAt]; grind
theorem SkyR.setting {b : Nat} {S : ST} {d : Nat → Int32} {k : Nat} {v : Int32} (h : SkyR b S d) (hk : k < 4) : SkyR b (wr S (b + 7) k v) (upd d (4 + k) v) := by
  obtain ⟨a1, a2, a3, a4, a5, a6, a7, a8, a9, a10, a11, a12, a13⟩ := h
  refine ⟨?_, ?_, ?_, ?_, fun x hx => ?_, fun x hx => ?_, fun x hx => ?_, fun x hx => ?_, fun x hx => ?_, fun x hx => ?_, fun x hx => ?_, fun x hx => ?_, fun x hx => ?_⟩
  · rw [wrAt, updAt]; grind
  · rw [wrAt, updAt]; grind
  · rw [wrAt, updAt]; grind
  · rw [wrAt, updAt]; grind
  · have := a5 x hx; rw [wrAt, updAt]; grind
  · have := a6 x hx; rw [wrAt, updAt]; grind
  · have := a7 x hx; rw [wrAt, updAt]; grind
  · have := a8 x hx; rw [wrAt, updAt]; grind
  · have := a9 x hx; rw [wrAt, updAt]; grind
  · have := a10 x hx; rw [wrAt, updAt]; grind
  · have := a11 x hx; rw [wrAt, updAt]; grind
  · have := a12 x hx; rw [wrAt, updAt]; grind
  · have := a13 x hx; rw [wrAt, updAt]; grind
theorem SkyR.crewP {b : Nat} {S : ST} {d : Nat → Int32} {k : Nat} {v : Int32} (h : SkyR b S d) (hk : k < 4) : SkyR b (wr S (b + 5) k v) (upd d (8 + 2 * k) v) := by
  obtain ⟨a1, a2, a3, a4, a5, a6, a7, a8, a9, a10, a11, a12, a13⟩ := h
  refine ⟨?_, ?_, ?_, ?_, fun x hx => ?_, fun x hx => ?_, fun x hx => ?_, fun x hx => ?_, fun x hx => ?_, fun x hx => ?_, fun x hx => ?_, fun x hx => ?_, fun x hx => ?_⟩
  · rw [wrAt, updAt]; grind
  · rw [wrAt, updAt]; grind
  · rw [wrAt, updAt]; grind
  · rw [wrAt, updAt]; grind
  · have := a5 x hx; rw [wrAt, updAt]; grind
  · have := a6 x hx; rw [wrAt, updAt]; grind
  · have := a7 x hx; rw [wrAt, updAt]; grind
  · have := a8 x hx; rw [wrAt, updAt]; grind
  · have := a9 x hx; rw [wrAt, updAt]; grind
  · have := a10 x hx; rw [wrAt, updAt]; grind
  · have := a11 x hx; rw [wrAt, updAt]; grind
  · have := a12 x hx; rw [wrAt, updAt]; grind
  · have := a13 x hx; rw [wrAt, updAt]; grind
theorem SkyR.crewS {b : Nat} {S : ST} {d : Nat → Int32} {k : Nat} {v : Int32} (h : SkyR b S d) (hk : k < 4) : SkyR b (wr S (b + 6) k v) (upd d (9 + 2 * k) v) := by
  obtain ⟨a1, a2, a3, a4, a5, a6, a7, a8, a9, a10, a11, a12, a13⟩ := h
  refine ⟨?_, ?_, ?_, ?_, fun x hx => ?_, fun x hx => ?_, fun x hx => ?_, fun x hx => ?_, fun x hx => ?_, fun x hx => ?_, fun x hx => ?_, fun x hx => ?_, fun x hx => ?_⟩
  · rw [wrAt, updAt]; grind
  · rw [wrAt, updAt]; grind
  · rw [wrAt, updAt]; grind
  · rw [wrAt, updAt]; grind
  · have := a5 x hx; rw [wrAt, updAt]; grind
  · have := a6 x hx; rw [wrAt, updAt]; grind
  · have := a7 x hx; rw [wrAt, updAt]; grind
  · have := a8 x hx; rw [wrAt, updAt]; grind
  · have := a9 x hx; rw [wrAt, updAt]; grind
  · have := a10 x hx; rw [wrAt, updAt]; grind
  · have := a11 x hx; rw [wrAt, updAt]; grind
  · have := a12 x hx; rw [wrAt, updAt]; grind
  · have := a13 x hx; rw [wrAt, updAt]; grind
theorem SkyR.kind {b : Nat} {S : ST} {d : Nat → Int32} {k : Nat} {v : Int32} (h : SkyR b S d) (hk : k < 10) : SkyR b (wr S (b + 1) k v) (upd d (16 + 4 * k) v) := by
  obtain ⟨a1, a2, a3, a4, a5, a6, a7, a8, a9, a10, a11, a12, a13⟩ := h
  refine ⟨?_, ?_, ?_, ?_, fun x hx => ?_, fun x hx => ?_, fun x hx => ?_, fun x hx => ?_, fun x hx => ?_, fun x hx => ?_, fun x hx => ?_, fun x hx => ?_, fun x hx => ?_⟩
  · rw [wrAt, updAt]; grind
  · rw [wrAt, updAt]; grind
  · rw [wrAt, updAt]; grind
  · rw [wrAt, updAt]; grind
  · have := a5 x hx; rw [wrAt, updAt]; grind
  · have := a6 x hx; rw [wrAt, updAt]; grind
  · have := a7 x hx; rw [wrAt, updAt]; grind
  · have := a8 x hx; rw [wrAt, updAt]; grind
  · have := a9 x hx; rw [wrAt, updAt]; grind
  · have := a10 x hx; rw [wrAt, updAt]; grind
  · have := a11 x hx; rw [wrAt, updAt]; grind
  · have := a12 x hx; rw [wrAt, updAt]; grind
  · have := a13 x hx; rw [wrAt, updAt]; grind
theorem SkyR.place {b : Nat} {S : ST} {d : Nat → Int32} {k : Nat} {v : Int32} (h : SkyR b S d) (hk : k < 10) : SkyR b (wr S (b + 2) k v) (upd d (17 + 4 * k) v) := by
  obtain ⟨a1, a2, a3, a4, a5, a6, a7, a8, a9, a10, a11, a12, a13⟩ := h
  refine ⟨?_, ?_, ?_, ?_, fun x hx => ?_, fun x hx => ?_, fun x hx => ?_, fun x hx => ?_, fun x hx => ?_, fun x hx => ?_, fun x hx => ?_, fun x hx => ?_, fun x hx => ?_⟩
  · rw [wrAt, updAt]; grind
  · rw [wrAt, updAt]; grind
  · rw [wrAt, updAt]; grind
  · rw [wrAt, updAt]; grind
  · have := a5 x hx; rw [wrAt, updAt]; grind
  · have := a6 x hx; rw [wrAt, updAt]; grind
  · have := a7 x hx; rw [wrAt, updAt]; grind
  · have := a8 x hx; rw [wrAt, updAt]; grind
  · have := a9 x hx; rw [wrAt, updAt]; grind
  · have := a10 x hx; rw [wrAt, updAt]; grind
  · have := a11 x hx; rw [wrAt, updAt]; grind
  · have := a12 x hx; rw [wrAt, updAt]; grind
  · have := a13 x hx; rw [wrAt, updAt]; grind
theorem SkyR.life {b : Nat} {S : ST} {d : Nat → Int32} {k : Nat} {v : Int32} (h : SkyR b S d) (hk : k < 10) : SkyR b (wr S (b + 3) k v) (upd d (18 + 4 * k) v) := by
  obtain ⟨a1, a2, a3, a4, a5, a6, a7, a8, a9, a10, a11, a12, a13⟩ := h
  refine ⟨?_, ?_, ?_, ?_, fun x hx => ?_, fun x hx => ?_, fun x hx => ?_, fun x hx => ?_, fun x hx => ?_, fun x hx => ?_, fun x hx => ?_, fun x hx => ?_, fun x hx => ?_⟩
  · rw [wrAt, updAt]; grind
  · rw [wrAt, updAt]; grind
  · rw [wrAt, updAt]; grind
  · rw [wrAt, updAt]; grind
  · have := a5 x hx; rw [wrAt, updAt]; grind
  · have := a6 x hx; rw [wrAt, updAt]; grind
  · have := a7 x hx; rw [wrAt, updAt]; grind
  · have := a8 x hx; rw [wrAt, updAt]; grind
  · have := a9 x hx; rw [wrAt, updAt]; grind
  · have := a10 x hx; rw [wrAt, updAt]; grind
  · have := a11 x hx; rw [wrAt, updAt]; grind
  · have := a12 x hx; rw [wrAt, updAt]; grind
  · have := a13 x hx; rw [wrAt, updAt]; grind
theorem SkyR.worth {b : Nat} {S : ST} {d : Nat → Int32} {k : Nat} {v : Int32} (h : SkyR b S d) (hk : k < 10) : SkyR b (wr S (b + 4) k v) (upd d (19 + 4 * k) v) := by
  obtain ⟨a1, a2, a3, a4, a5, a6, a7, a8, a9, a10, a11, a12, a13⟩ := h
  refine ⟨?_, ?_, ?_, ?_, fun x hx => ?_, fun x hx => ?_, fun x hx => ?_, fun x hx => ?_, fun x hx => ?_, fun x hx => ?_, fun x hx => ?_, fun x hx => ?_, fun x hx => ?_⟩
  · rw [wrAt, updAt]; grind
  · rw [wrAt, updAt]; grind
  · rw [wrAt, updAt]; grind
  · rw [wrAt, updAt]; grind
  · have := a5 x hx; rw [wrAt, updAt]; grind
  · have := a6 x hx; rw [wrAt, updAt]; grind
  · have := a7 x hx; rw [wrAt, updAt]; grind
  · have := a8 x hx; rw [wrAt, updAt]; grind
  · have := a9 x hx; rw [wrAt, updAt]; grind
  · have := a10 x hx; rw [wrAt, updAt]; grind
  · have := a11 x hx; rw [wrAt, updAt]; grind
  · have := a12 x hx; rw [wrAt, updAt]; grind
  · have := a13 x hx; rw [wrAt, updAt]; grind
theorem SkyR.signAt {b : Nat} {S : ST} {d : Nat → Int32} {k : Nat} {v : Int32} (h : SkyR b S d) (hk : k < 6) : SkyR b (wr S (b + 8) k v) (upd d (56 + k) v) := by
  obtain ⟨a1, a2, a3, a4, a5, a6, a7, a8, a9, a10, a11, a12, a13⟩ := h
  refine ⟨?_, ?_, ?_, ?_, fun x hx => ?_, fun x hx => ?_, fun x hx => ?_, fun x hx => ?_, fun x hx => ?_, fun x hx => ?_, fun x hx => ?_, fun x hx => ?_, fun x hx => ?_⟩
  · rw [wrAt, updAt]; grind
  · rw [wrAt, updAt]; grind
  · rw [wrAt, updAt]; grind
  · rw [wrAt, updAt]; grind
  · have := a5 x hx; rw [wrAt, updAt]; grind
  · have := a6 x hx; rw [wrAt, updAt]; grind
  · have := a7 x hx; rw [wrAt, updAt]; grind
  · have := a8 x hx; rw [wrAt, updAt]; grind
  · have := a9 x hx; rw [wrAt, updAt]; grind
  · have := a10 x hx; rw [wrAt, updAt]; grind
  · have := a11 x hx; rw [wrAt, updAt]; grind
  · have := a12 x hx; rw [wrAt, updAt]; grind
  · have := a13 x hx; rw [wrAt, updAt]; grind
theorem SkyR.spot {b : Nat} {S : ST} {d : Nat → Int32} {k : Nat} {v : Int32} (h : SkyR b S d) (hk : k < 10) : SkyR b (wr S (b + 9) k v) (upd d (62 + k) v) := by
  obtain ⟨a1, a2, a3, a4, a5, a6, a7, a8, a9, a10, a11, a12, a13⟩ := h
  refine ⟨?_, ?_, ?_, ?_, fun x hx => ?_, fun x hx => ?_, fun x hx => ?_, fun x hx => ?_, fun x hx => ?_, fun x hx => ?_, fun x hx => ?_, fun x hx => ?_, fun x hx => ?_⟩
  · rw [wrAt, updAt]; grind
  · rw [wrAt, updAt]; grind
  · rw [wrAt, updAt]; grind
  · rw [wrAt, updAt]; grind
  · have := a5 x hx; rw [wrAt, updAt]; grind
  · have := a6 x hx; rw [wrAt, updAt]; grind
  · have := a7 x hx; rw [wrAt, updAt]; grind
  · have := a8 x hx; rw [wrAt, updAt]; grind
  · have := a9 x hx; rw [wrAt, updAt]; grind
  · have := a10 x hx; rw [wrAt, updAt]; grind
  · have := a11 x hx; rw [wrAt, updAt]; grind
  · have := a12 x hx; rw [wrAt, updAt]; grind
  · have := a13 x hx; rw [wrAt, updAt]; grind
theorem SkyK.night {d : Nat → Int32}  {v : Int32} (h : SkyK d) (hv : 0 ≤ v ∧ v ≤ 99999) : SkyK (upd d (0) v) := by
  obtain ⟨a1, a2, a3, a4, a5, a6, a7, a8, a9, a10, a11, a12, a13, a14, a15⟩ := h
  refine ⟨?_, ?_, ?_, ?_, ?_, ?_, ?_, fun x hx => ?_, fun x hx => ?_, fun x hx => ?_, fun x hx => ?_, fun x hx => ?_, fun x hx => ?_, fun x hx => ?_, fun x hx => ?_⟩
  · simp only [updAt]; grind
  · simp only [updAt]; grind
  · simp only [updAt]; grind
  · simp only [updAt]; grind
  · simp only [updAt]; grind
  · simp only [updAt]; grind
  · simp only [updAt]; grind
  · have := a8 x hx; simp only [updAt]; grind
  · have := a9 x hx; simp only [updAt]; grind
  · have := a10 x hx; simp only [updAt]; grind
  · have := a11 x hx; simp only [updAt]; grind
  · have := a12 x hx; simp only [updAt]; grind
  · have := a13 x hx; simp only [updAt]; grind
  · have := a14 x hx; simp only [updAt]; grind
  · have := a15 x hx; simp only [updAt]; grind
theorem SkyK.z {d : Nat → Int32}  {v : Int32} (h : SkyK d) : SkyK (upd d (3) v) := by
  obtain ⟨a1, a2, a3, a4, a5, a6, a7, a8, a9, a10, a11, a12, a13, a14, a15⟩ := h
  refine ⟨?_, ?_, ?_, ?_, ?_, ?_, ?_, fun x hx => ?_, fun x hx => ?_, fun x hx => ?_, fun x hx => ?_, fun x hx => ?_, fun x hx => ?_, fun x hx => ?_, fun x hx => ?_⟩
  · simp only [updAt]; grind
  · simp only [updAt]; grind
  · simp only [updAt]; grind
  · simp only [updAt]; grind
  · simp only [updAt]; grind
  · simp only [updAt]; grind
  · simp only [updAt]; grind
  · have := a8 x hx; simp only [updAt]; grind
  · have := a9 x hx; simp only [updAt]; grind
  · have := a10 x hx; simp only [updAt]; grind
  · have := a11 x hx; simp only [updAt]; grind
  · have := a12 x hx; simp only [updAt]; grind
  · have := a13 x hx; simp only [updAt]; grind
  · have := a14 x hx; simp only [updAt]; grind
  · have := a15 x hx; simp only [updAt]; grind
theorem SkyK.dust {d : Nat → Int32}  {v : Int32} (h : SkyK d) (hv : 0 ≤ v ∧ v ≤ 9) : SkyK (upd d (4) v) := by
  obtain ⟨a1, a2, a3, a4, a5, a6, a7, a8, a9, a10, a11, a12, a13, a14, a15⟩ := h
  refine ⟨?_, ?_, ?_, ?_, ?_, ?_, ?_, fun x hx => ?_, fun x hx => ?_, fun x hx => ?_, fun x hx => ?_, fun x hx => ?_, fun x hx => ?_, fun x hx => ?_, fun x hx => ?_⟩
  · simp only [updAt]; grind
  · simp only [updAt]; grind
  · simp only [updAt]; grind
  · simp only [updAt]; grind
  · simp only [updAt]; grind
  · simp only [updAt]; grind
  · simp only [updAt]; grind
  · have := a8 x hx; simp only [updAt]; grind
  · have := a9 x hx; simp only [updAt]; grind
  · have := a10 x hx; simp only [updAt]; grind
  · have := a11 x hx; simp only [updAt]; grind
  · have := a12 x hx; simp only [updAt]; grind
  · have := a13 x hx; simp only [updAt]; grind
  · have := a14 x hx; simp only [updAt]; grind
  · have := a15 x hx; simp only [updAt]; grind
theorem SkyK.wishes {d : Nat → Int32}  {v : Int32} (h : SkyK d) (hv : 0 ≤ v ∧ v ≤ 9) : SkyK (upd d (5) v) := by
  obtain ⟨a1, a2, a3, a4, a5, a6, a7, a8, a9, a10, a11, a12, a13, a14, a15⟩ := h
  refine ⟨?_, ?_, ?_, ?_, ?_, ?_, ?_, fun x hx => ?_, fun x hx => ?_, fun x hx => ?_, fun x hx => ?_, fun x hx => ?_, fun x hx => ?_, fun x hx => ?_, fun x hx => ?_⟩
  · simp only [updAt]; grind
  · simp only [updAt]; grind
  · simp only [updAt]; grind
  · simp only [updAt]; grind
  · simp only [updAt]; grind
  · simp only [updAt]; grind
  · simp only [updAt]; grind
  · have := a8 x hx; simp only [updAt]; grind
  · have := a9 x hx; simp only [updAt]; grind
  · have := a10 x hx; simp only [updAt]; grind
  · have := a11 x hx; simp only [updAt]; grind
  · have := a12 x hx; simp only [updAt]; grind
  · have := a13 x hx; simp only [updAt]; grind
  · have := a14 x hx; simp only [updAt]; grind
  · have := a15 x hx; simp only [updAt]; grind
theorem SkyK.mend {d : Nat → Int32}  {v : Int32} (h : SkyK d) (hv : 0 ≤ v ∧ v ≤ 99) : SkyK (upd d (6) v) := by
  obtain ⟨a1, a2, a3, a4, a5, a6, a7, a8, a9, a10, a11, a12, a13, a14, a15⟩ := h
  refine ⟨?_, ?_, ?_, ?_, ?_, ?_, ?_, fun x hx => ?_, fun x hx => ?_, fun x hx => ?_, fun x hx => ?_, fun x hx => ?_, fun x hx => ?_, fun x hx => ?_, fun x hx => ?_⟩
  · simp only [updAt]; grind
  · simp only [updAt]; grind
  · simp only [updAt]; grind
  · simp only [updAt]; grind
  · simp only [updAt]; grind
  · simp only [updAt]; grind
  · simp only [updAt]; grind
  · have := a8 x hx; simp only [updAt]; grind
  · have := a9 x hx; simp only [updAt]; grind
  · have := a10 x hx; simp only [updAt]; grind
  · have := a11 x hx; simp only [updAt]; grind
  · have := a12 x hx; simp only [updAt]; grind
  · have := a13 x hx; simp only [updAt]; grind
  · have := a14 x hx; simp only [updAt]; grind
  · have := a15 x hx; simp only [updAt]; grind
theorem SkyK.parts {d : Nat → Int32}  {v : Int32} (h : SkyK d) (hv : 0 ≤ v ∧ v ≤ 9999) : SkyK (upd d (7) v) := by
  obtain ⟨a1, a2, a3, a4, a5, a6, a7, a8, a9, a10, a11, a12, a13, a14, a15⟩ := h
  refine ⟨?_, ?_, ?_, ?_, ?_, ?_, ?_, fun x hx => ?_, fun x hx => ?_, fun x hx => ?_, fun x hx => ?_, fun x hx => ?_, fun x hx => ?_, fun x hx => ?_, fun x hx => ?_⟩
  · simp only [updAt]; grind
  · simp only [updAt]; grind
  · simp only [updAt]; grind
  · simp only [updAt]; grind
  · simp only [updAt]; grind
  · simp only [updAt]; grind
  · simp only [updAt]; grind
  · have := a8 x hx; simp only [updAt]; grind
  · have := a9 x hx; simp only [updAt]; grind
  · have := a10 x hx; simp only [updAt]; grind
  · have := a11 x hx; simp only [updAt]; grind
  · have := a12 x hx; simp only [updAt]; grind
  · have := a13 x hx; simp only [updAt]; grind
  · have := a14 x hx; simp only [updAt]; grind
  · have := a15 x hx; simp only [updAt]; grind
theorem SkyK.crewP {d : Nat → Int32} {k : Nat} {v : Int32} (h : SkyK d) (hk : k < 4) (hv : 0 ≤ v ∧ v ≤ 99) : SkyK (upd d (8 + 2 * k) v) := by
  obtain ⟨a1, a2, a3, a4, a5, a6, a7, a8, a9, a10, a11, a12, a13, a14, a15⟩ := h
  refine ⟨?_, ?_, ?_, ?_, ?_, ?_, ?_, fun x hx => ?_, fun x hx => ?_, fun x hx => ?_, fun x hx => ?_, fun x hx => ?_, fun x hx => ?_, fun x hx => ?_, fun x hx => ?_⟩
  · simp only [updAt]; grind
  · simp only [updAt]; grind
  · simp only [updAt]; grind
  · simp only [updAt]; grind
  · simp only [updAt]; grind
  · simp only [updAt]; grind
  · simp only [updAt]; grind
  · have := a8 x hx; simp only [updAt]; grind
  · have := a9 x hx; simp only [updAt]; grind
  · have := a10 x hx; simp only [updAt]; grind
  · have := a11 x hx; simp only [updAt]; grind
  · have := a12 x hx; simp only [updAt]; grind
  · have := a13 x hx; simp only [updAt]; grind
  · have := a14 x hx; simp only [updAt]; grind
  · have := a15 x hx; simp only [updAt]; grind
theorem SkyK.crewS {d : Nat → Int32} {k : Nat} {v : Int32} (h : SkyK d) (hk : k < 4) (hv : 0 ≤ v ∧ v ≤ 999) : SkyK (upd d (9 + 2 * k) v) := by
  obtain ⟨a1, a2, a3, a4, a5, a6, a7, a8, a9, a10, a11, a12, a13, a14, a15⟩ := h
  refine ⟨?_, ?_, ?_, ?_, ?_, ?_, ?_, fun x hx => ?_, fun x hx => ?_, fun x hx => ?_, fun x hx => ?_, fun x hx => ?_, fun x hx => ?_, fun x hx => ?_, fun x hx => ?_⟩
  · simp only [updAt]; grind
  · simp only [updAt]; grind
  · simp only [updAt]; grind
  · simp only [updAt]; grind
  · simp only [updAt]; grind
  · simp only [updAt]; grind
  · simp only [updAt]; grind
  · have := a8 x hx; simp only [updAt]; grind
  · have := a9 x hx; simp only [updAt]; grind
  · have := a10 x hx; simp only [updAt]; grind
  · have := a11 x hx; simp only [updAt]; grind
  · have := a12 x hx; simp only [updAt]; grind
  · have := a13 x hx; simp only [updAt]; grind
  · have := a14 x hx; simp only [updAt]; grind
  · have := a15 x hx; simp only [updAt]; grind
theorem SkyK.kind {d : Nat → Int32} {k : Nat} {v : Int32} (h : SkyK d) (hk : k < 10) (hv : 0 ≤ v ∧ v ≤ 6) : SkyK (upd d (16 + 4 * k) v) := by
  obtain ⟨a1, a2, a3, a4, a5, a6, a7, a8, a9, a10, a11, a12, a13, a14, a15⟩ := h
  refine ⟨?_, ?_, ?_, ?_, ?_, ?_, ?_, fun x hx => ?_, fun x hx => ?_, fun x hx => ?_, fun x hx => ?_, fun x hx => ?_, fun x hx => ?_, fun x hx => ?_, fun x hx => ?_⟩
  · simp only [updAt]; grind
  · simp only [updAt]; grind
  · simp only [updAt]; grind
  · simp only [updAt]; grind
  · simp only [updAt]; grind
  · simp only [updAt]; grind
  · simp only [updAt]; grind
  · have := a8 x hx; simp only [updAt]; grind
  · have := a9 x hx; simp only [updAt]; grind
  · have := a10 x hx; simp only [updAt]; grind
  · have := a11 x hx; simp only [updAt]; grind
  · have := a12 x hx; simp only [updAt]; grind
  · have := a13 x hx; simp only [updAt]; grind
  · have := a14 x hx; simp only [updAt]; grind
  · have := a15 x hx; simp only [updAt]; grind
theorem SkyK.place {d : Nat → Int32} {k : Nat} {v : Int32} (h : SkyK d) (hk : k < 10) (hv : 0 ≤ v ∧ v ≤ 99) : SkyK (upd d (17 + 4 * k) v) := by
  obtain ⟨a1, a2, a3, a4, a5, a6, a7, a8, a9, a10, a11, a12, a13, a14, a15⟩ := h
  refine ⟨?_, ?_, ?_, ?_, ?_, ?_, ?_, fun x hx => ?_, fun x hx => ?_, fun x hx => ?_, fun x hx => ?_, fun x hx => ?_, fun x hx => ?_, fun x hx => ?_, fun x hx => ?_⟩
  · simp only [updAt]; grind
  · simp only [updAt]; grind
  · simp only [updAt]; grind
  · simp only [updAt]; grind
  · simp only [updAt]; grind
  · simp only [updAt]; grind
  · simp only [updAt]; grind
  · have := a8 x hx; simp only [updAt]; grind
  · have := a9 x hx; simp only [updAt]; grind
  · have := a10 x hx; simp only [updAt]; grind
  · have := a11 x hx; simp only [updAt]; grind
  · have := a12 x hx; simp only [updAt]; grind
  · have := a13 x hx; simp only [updAt]; grind
  · have := a14 x hx; simp only [updAt]; grind
  · have := a15 x hx; simp only [updAt]; grind
theorem SkyK.life {d : Nat → Int32} {k : Nat} {v : Int32} (h : SkyK d) (hk : k < 10) (hv : 0 ≤ v ∧ v ≤ 99) : SkyK (upd d (18 + 4 * k) v) := by
  obtain ⟨a1, a2, a3, a4, a5, a6, a7, a8, a9, a10, a11, a12, a13, a14, a15⟩ := h
  refine ⟨?_, ?_, ?_, ?_, ?_, ?_, ?_, fun x hx => ?_, fun x hx => ?_, fun x hx => ?_, fun x hx => ?_, fun x hx => ?_, fun x hx => ?_, fun x hx => ?_, fun x hx => ?_⟩
  · simp only [updAt]; grind
  · simp only [updAt]; grind
  · simp only [updAt]; grind
  · simp only [updAt]; grind
  · simp only [updAt]; grind
  · simp only [updAt]; grind
  · simp only [updAt]; grind
  · have := a8 x hx; simp only [updAt]; grind
  · have := a9 x hx; simp only [updAt]; grind
  · have := a10 x hx; simp only [updAt]; grind
  · have := a11 x hx; simp only [updAt]; grind
  · have := a12 x hx; simp only [updAt]; grind
  · have := a13 x hx; simp only [updAt]; grind
  · have := a14 x hx; simp only [updAt]; grind
  · have := a15 x hx; simp only [updAt]; grind
theorem SkyK.worth {d : Nat → Int32} {k : Nat} {v : Int32} (h : SkyK d) (hk : k < 10) (hv : 0 ≤ v ∧ v ≤ 99) : SkyK (upd d (19 + 4 * k) v) := by
  obtain ⟨a1, a2, a3, a4, a5, a6, a7, a8, a9, a10, a11, a12, a13, a14, a15⟩ := h
  refine ⟨?_, ?_, ?_, ?_, ?_, ?_, ?_, fun x hx => ?_, fun x hx => ?_, fun x hx => ?_, fun x hx => ?_, fun x hx => ?_, fun x hx => ?_, fun x hx => ?_, fun x hx => ?_⟩
  · simp only [updAt]; grind
  · simp only [updAt]; grind
  · simp only [updAt]; grind
  · simp only [updAt]; grind
  · simp only [updAt]; grind
  · simp only [updAt]; grind
  · simp only [updAt]; grind
  · have := a8 x hx; simp only [updAt]; grind
  · have := a9 x hx; simp only [updAt]; grind
  · have := a10 x hx; simp only [updAt]; grind
  · have := a11 x hx; simp only [updAt]; grind
  · have := a12 x hx; simp only [updAt]; grind
  · have := a13 x hx; simp only [updAt]; grind
  · have := a14 x hx; simp only [updAt]; grind
  · have := a15 x hx; simp only [updAt]; grind
theorem SkyK.spot {d : Nat → Int32} {k : Nat} {v : Int32} (h : SkyK d) (hk : k < 10) (hv : v = -1 ∨ (0 ≤ v ∧ v ≤ d 1 - 1)) : SkyK (upd d (62 + k) v) := by
  obtain ⟨a1, a2, a3, a4, a5, a6, a7, a8, a9, a10, a11, a12, a13, a14, a15⟩ := h
  refine ⟨?_, ?_, ?_, ?_, ?_, ?_, ?_, fun x hx => ?_, fun x hx => ?_, fun x hx => ?_, fun x hx => ?_, fun x hx => ?_, fun x hx => ?_, fun x hx => ?_, fun x hx => ?_⟩
  · simp only [updAt]; grind
  · simp only [updAt]; grind
  · simp only [updAt]; grind
  · simp only [updAt]; grind
  · simp only [updAt]; grind
  · simp only [updAt]; grind
  · simp only [updAt]; grind
  · have := a8 x hx; simp only [updAt]; grind
  · have := a9 x hx; simp only [updAt]; grind
  · have := a10 x hx; simp only [updAt]; grind
  · have := a11 x hx; simp only [updAt]; grind
  · have := a12 x hx; simp only [updAt]; grind
  · have := a13 x hx; simp only [updAt]; grind
  · have := a14 x hx; simp only [updAt]; grind
  · have := a15 x hx; simp only [updAt]; grind
