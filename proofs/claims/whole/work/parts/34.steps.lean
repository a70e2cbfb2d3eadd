/-- type: the reference comes to its end, and what it comes to the class comes to as well -/
def Back_type (Sim : Gm → StC → StM → Prop) (mc ms : Nat) : Prop := ∀ (g : Gm) (S : StC) (T : StM), Sim g S T → ∀ a0 a1 : Int32, wp_M_type (fun _ _ => True) T a0 a1 ∧ ∀ post : Int32 → StC → Prop, wp_M_type (fun r T1 => ∀ S1 : StC, Sim g S1 T1 → post r S1) T a0 a1 → wp_W_type g post mc ms S a0 a1
theorem step_type {Sim : Gm → StC → StM → Prop} {mc ms : Nat} {g : Gm} {S : StC} {T : StM} (h : Back_type Sim mc ms) (hs : Sim g S T) (a0 a1 : Int32) : wp_W_type g (fun r S1 => wp_M_type (fun r1 T1 => r = r1 ∧ Sim g S1 T1) T a0 a1) mc ms S a0 a1 := by
  obtain ⟨h1, h2⟩ := h g S T hs a0 a1
  obtain ⟨x, -, hf⟩ := dt_wp_M_type _ h1
  exact h2 _ (hf _ (fun S1 hS1 => hf _ ⟨rfl, hS1⟩))
/-- run: the reference comes to its end, and what it comes to the class comes to as well -/
def Back_run (Sim : Gm → StC → StM → Prop) (mc ms : Nat) : Prop := ∀ (g : Gm) (S : StC) (T : StM), Sim g S T → wp_M_run (fun _ _ => True) T ∧ ∀ post : Int32 → StC → Prop, wp_M_run (fun r T1 => ∀ S1 : StC, Sim g S1 T1 → post r S1) T → wp_W_run g post mc ms S
theorem step_run {Sim : Gm → StC → StM → Prop} {mc ms : Nat} {g : Gm} {S : StC} {T : StM} (h : Back_run Sim mc ms) (hs : Sim g S T) : wp_W_run g (fun r S1 => wp_M_run (fun r1 T1 => r = r1 ∧ Sim g S1 T1) T) mc ms S := by
  obtain ⟨h1, h2⟩ := h g S T hs
  obtain ⟨x, -, hf⟩ := dt_wp_M_run _ h1
  exact h2 _ (hf _ (fun S1 hS1 => hf _ ⟨rfl, hS1⟩))
/-- count: the reference comes to its end, and what it comes to the class comes to as well -/
def Back_count (Sim : Gm → StC → StM → Prop) : Prop := ∀ (g : Gm) (S : StC) (T : StM), Sim g S T → ∀ a0 : Int32, wp_M_count (fun _ _ => True) T a0 ∧ ∀ post : Int32 → StC → Prop, wp_M_count (fun r T1 => ∀ S1 : StC, Sim g S1 T1 → post r S1) T a0 → wp_W_count g post S a0
theorem step_count {Sim : Gm → StC → StM → Prop} {g : Gm} {S : StC} {T : StM} (h : Back_count Sim) (hs : Sim g S T) (a0 : Int32) : wp_W_count g (fun r S1 => wp_M_count (fun r1 T1 => r = r1 ∧ Sim g S1 T1) T a0) S a0 := by
  obtain ⟨h1, h2⟩ := h g S T hs a0
  obtain ⟨x, -, hf⟩ := dt_wp_M_count _ h1
  exact h2 _ (hf _ (fun S1 hS1 => hf _ ⟨rfl, hS1⟩))
/-- stack: the reference comes to its end, and what it comes to the class comes to as well -/
def Back_stack (Sim : Gm → StC → StM → Prop) : Prop := ∀ (g : Gm) (S : StC) (T : StM), Sim g S T → ∀ a0 : Int32, wp_M_stack (fun _ _ => True) T a0 ∧ ∀ post : Int32 → StC → Prop, wp_M_stack (fun r T1 => ∀ S1 : StC, Sim g S1 T1 → post r S1) T a0 → wp_W_stack g post S a0
theorem step_stack {Sim : Gm → StC → StM → Prop} {g : Gm} {S : StC} {T : StM} (h : Back_stack Sim) (hs : Sim g S T) (a0 : Int32) : wp_W_stack g (fun r S1 => wp_M_stack (fun r1 T1 => r = r1 ∧ Sim g S1 T1) T a0) S a0 := by
  obtain ⟨h1, h2⟩ := h g S T hs a0
  obtain ⟨x, -, hf⟩ := dt_wp_M_stack _ h1
  exact h2 _ (hf _ (fun S1 hS1 => hf _ ⟨rfl, hS1⟩))
/-- out: the reference comes to its end, and what it comes to the class comes to as well -/
def Back_out (Sim : Gm → StC → StM → Prop) : Prop := ∀ (g : Gm) (S : StC) (T : StM), Sim g S T → ∀ a0 : Int32, wp_M_out (fun _ _ => True) T a0 ∧ ∀ post : Int32 → StC → Prop, wp_M_out (fun r T1 => ∀ S1 : StC, Sim g S1 T1 → post r S1) T a0 → wp_W_out g post S a0
theorem step_out {Sim : Gm → StC → StM → Prop} {g : Gm} {S : StC} {T : StM} (h : Back_out Sim) (hs : Sim g S T) (a0 : Int32) : wp_W_out g (fun r S1 => wp_M_out (fun r1 T1 => r = r1 ∧ Sim g S1 T1) T a0) S a0 := by
  obtain ⟨h1, h2⟩ := h g S T hs a0
  obtain ⟨x, -, hf⟩ := dt_wp_M_out _ h1
  exact h2 _ (hf _ (fun S1 hS1 => hf _ ⟨rfl, hS1⟩))
/-- cell: the reference comes to its end, and what it comes to the class comes to as well -/
def Back_cell (Sim : Gm → StC → StM → Prop) : Prop := ∀ (g : Gm) (S : StC) (T : StM), Sim g S T → ∀ a0 : Int32, wp_M_cell (fun _ _ => True) T a0 ∧ ∀ post : Int32 → StC → Prop, wp_M_cell (fun r T1 => ∀ S1 : StC, Sim g S1 T1 → post r S1) T a0 → wp_W_cell g post S a0
theorem step_cell {Sim : Gm → StC → StM → Prop} {g : Gm} {S : StC} {T : StM} (h : Back_cell Sim) (hs : Sim g S T) (a0 : Int32) : wp_W_cell g (fun r S1 => wp_M_cell (fun r1 T1 => r = r1 ∧ Sim g S1 T1) T a0) S a0 := by
  obtain ⟨h1, h2⟩ := h g S T hs a0
  obtain ⟨x, -, hf⟩ := dt_wp_M_cell _ h1
  exact h2 _ (hf _ (fun S1 hS1 => hf _ ⟨rfl, hS1⟩))
/-- disk: the reference comes to its end, and what it comes to the class comes to as well -/
def Back_disk (Sim : Gm → StC → StM → Prop) : Prop := ∀ (g : Gm) (S : StC) (T : StM), Sim g S T → ∀ a0 a1 : Int32, wp_M_disk (fun _ _ => True) T a0 a1 ∧ ∀ post : Int32 → StC → Prop, wp_M_disk (fun r T1 => ∀ S1 : StC, Sim g S1 T1 → post r S1) T a0 a1 → wp_W_disk g post S a0 a1
theorem step_disk {Sim : Gm → StC → StM → Prop} {g : Gm} {S : StC} {T : StM} (h : Back_disk Sim) (hs : Sim g S T) (a0 a1 : Int32) : wp_W_disk g (fun r S1 => wp_M_disk (fun r1 T1 => r = r1 ∧ Sim g S1 T1) T a0 a1) S a0 a1 := by
  obtain ⟨h1, h2⟩ := h g S T hs a0 a1
  obtain ⟨x, -, hf⟩ := dt_wp_M_disk _ h1
  exact h2 _ (hf _ (fun S1 hS1 => hf _ ⟨rfl, hS1⟩))
/-- items: the reference comes to its end, and what it comes to the class comes to as well -/
def Back_items (Sim : Gm → StC → StM → Prop) : Prop := ∀ (g : Gm) (S : StC) (T : StM), Sim g S T → ∀ a0 : Int32, wp_M_items (fun _ _ => True) T a0 ∧ ∀ post : Int32 → StC → Prop, wp_M_items (fun r T1 => ∀ S1 : StC, Sim g S1 T1 → post r S1) T a0 → wp_W_items g post S a0
theorem step_items {Sim : Gm → StC → StM → Prop} {g : Gm} {S : StC} {T : StM} (h : Back_items Sim) (hs : Sim g S T) (a0 : Int32) : wp_W_items g (fun r S1 => wp_M_items (fun r1 T1 => r = r1 ∧ Sim g S1 T1) T a0) S a0 := by
  obtain ⟨h1, h2⟩ := h g S T hs a0
  obtain ⟨x, -, hf⟩ := dt_wp_M_items _ h1
  exact h2 _ (hf _ (fun S1 hS1 => hf _ ⟨rfl, hS1⟩))
/-- buffer: the reference comes to its end, and what it comes to the class comes to as well -/
def Back_buffer (Sim : Gm → StC → StM → Prop) : Prop := ∀ (g : Gm) (S : StC) (T : StM), Sim g S T → ∀ a0 : Int32, wp_M_buffer (fun _ _ => True) T a0 ∧ ∀ post : Int32 → StC → Prop, wp_M_buffer (fun r T1 => ∀ S1 : StC, Sim g S1 T1 → post r S1) T a0 → wp_W_buffer g post S a0
theorem step_buffer {Sim : Gm → StC → StM → Prop} {g : Gm} {S : StC} {T : StM} (h : Back_buffer Sim) (hs : Sim g S T) (a0 : Int32) : wp_W_buffer g (fun r S1 => wp_M_buffer (fun r1 T1 => r = r1 ∧ Sim g S1 T1) T a0) S a0 := by
  obtain ⟨h1, h2⟩ := h g S T hs a0
  obtain ⟨x, -, hf⟩ := dt_wp_M_buffer _ h1
  exact h2 _ (hf _ (fun S1 hS1 => hf _ ⟨rfl, hS1⟩))
theorem step_ok {Sim : Gm → StC → StM → Prop} {mc ms : Nat} (h0 : Back_type Sim mc ms) (h1 : Back_run Sim mc ms) (h2 : Back_count Sim) (h3 : Back_stack Sim) (h4 : Back_out Sim) (h5 : Back_cell Sim) (h6 : Back_disk Sim) (h7 : Back_items Sim) (h8 : Back_buffer Sim) : StepOK Sim mc ms := fun g S T hs => ⟨fun a0 a1 => step_type h0 hs a0 a1, step_run h1 hs, fun a0 => step_count h2 hs a0, fun a0 => step_stack h3 hs a0, fun a0 => step_out h4 hs a0, fun a0 => step_cell h5 hs a0, fun a0 a1 => step_disk h6 hs a0 a1, fun a0 => step_items h7 hs a0, fun a0 => step_buffer h8 hs a0⟩
