/-- words of nest mates -/
def NB : List Cond := [.methodLinkNest "StarCrew" 28 ⟨"StarCrew$TextReader", "<init>", "()V"⟩ "StarCrew", .methodLinkNest "StarCrew$TextReader" 11 ⟨"StarCrew$Tape", "<init>", "()V"⟩ "StarCrew", .methodLinkNest "StarCrew" 41 ⟨"StarCrew$Walker", "<init>", "()V"⟩ "StarCrew", .methodLinkNest "StarCrew" 56 ⟨"StarCrew$Sheet", "<init>", "()V"⟩ "StarCrew", .methodLinkNest "StarCrew$Sky" 90 ⟨"StarCrew", "stepsBetween", "(II)I"⟩ "StarCrew", .fieldLinkNest "StarCrew$TextReader" 124 "StarCrew" "MOST_SETTING" "[I" "StarCrew"]
def kOwn : String := "StarCrew$TextReader"
/-- the text constants: their pool places and texts -/
def kT : List (Nat × String) := [(35, "crew"), (90, "at"), (112, "steps"), (44, "sign"), (63, "lamp"), (65, "red"), (67, "fixed"), (69, "pole"), (71, "guide"), (73, "old"), (75, "giant"), (96, "life"), (98, "worth"), (77, "dust"), (79, "wishes"), (81, "mend"), (83, "parts")]
def kLen : List Nat := [4, 2, 5, 4, 4, 3, 5, 4, 5, 3, 5, 4, 5, 4, 6, 4, 5]
def kByt : List (List Int32) := [[99, 114, 101, 119], [97, 116], [115, 116, 101, 112, 115], [115, 105, 103, 110], [108, 97, 109, 112], [114, 101, 100], [102, 105, 120, 101, 100], [112, 111, 108, 101], [103, 117, 105, 100, 101], [111, 108, 100], [103, 105, 97, 110, 116], [108, 105, 102, 101], [119, 111, 114, 116, 104], [100, 117, 115, 116], [119, 105, 115, 104, 101, 115], [109, 101, 110, 100], [112, 97, 114, 116, 115]]
theorem NB_warm {s U : State} (hW : s.WarmedH U.vm) (h : ∀ w ∈ NB, va_Nw w s) : ∀ w ∈ NB, va_Nw w U := by
  intro w hw
  have hs := h w hw
  simp only [NB, List.mem_cons, List.not_mem_nil, or_false] at hw
  rcases hw with rfl | rfl | rfl | rfl | rfl | rfl
  · exact va_Nw.warmM hW hs
  · exact va_Nw.warmM hW hs
  · exact va_Nw.warmM hW hs
  · exact va_Nw.warmM hW hs
  · exact va_Nw.warmM hW hs
  · exact va_Nw.warmF hW hs
theorem NB_same {u U : State} (hv : u.vm = U.vm) (h : ∀ w ∈ NB, va_Nw w u) : ∀ w ∈ NB, va_Nw w U := by
  intro w hw
  have hs := h w hw
  simp only [NB, List.mem_cons, List.not_mem_nil, or_false] at hw
  rcases hw with rfl | rfl | rfl | rfl | rfl | rfl <;> exact va_Nw.same rfl hv hs
