/-- type: the reference comes to its end, and what it comes to the class comes to as well -/
def Back_type (Sim : Nat → Gm → StC → StM → Prop) (mc ms : Nat) : Prop := ∀ (k : Nat) (g : Gm) (S : StC) (T : StM), k < 512 → Sim k g S T → ∀ a0 a1 : Int32, wp_M_type (fun _ _ => True) T a0 a1 ∧ ∀ post : Int32 → StC → Prop, wp_M_type (fun r T1 => ∀ S1 : StC, Sim (k + 1) g S1 T1 → post r S1) T a0 a1 → wp_W_type g post mc ms S a0 a1
theorem step_type {Sim : Nat → Gm → StC → StM → Prop} {mc ms : Nat} {k : Nat} {g : Gm} {S : StC} {T : StM} (h : Back_type Sim mc ms) (hk : k < 512) (hs : Sim k g S T) (a0 a1 : Int32) : wp_W_type g (fun r S1 => wp_M_type (fun r1 T1 => r = r1 ∧ Sim (k + 1) g S1 T1) T a0 a1) mc ms S a0 a1 := by
  obtain ⟨h1, h2⟩ := h k g S T hk hs a0 a1
  obtain ⟨x, -, hf⟩ := dt_wp_M_type.one _ h1
  exact h2 _ (hf _ (fun S1 hS1 => hf _ ⟨rfl, hS1⟩))
/-- run: the reference comes to its end, and what it comes to the class comes to as well -/
def Back_run (Sim : Nat → Gm → StC → StM → Prop) (mc ms : Nat) : Prop := ∀ (k : Nat) (g : Gm) (S : StC) (T : StM), k < 512 → Sim k g S T → wp_M_run (fun _ _ => True) T ∧ ∀ post : Int32 → StC → Prop, wp_M_run (fun r T1 => ∀ S1 : StC, Sim (k + 1) g S1 T1 → post r S1) T → wp_W_run g post mc ms S
theorem step_run {Sim : Nat → Gm → StC → StM → Prop} {mc ms : Nat} {k : Nat} {g : Gm} {S : StC} {T : StM} (h : Back_run Sim mc ms) (hk : k < 512) (hs : Sim k g S T) : wp_W_run g (fun r S1 => wp_M_run (fun r1 T1 => r = r1 ∧ Sim (k + 1) g S1 T1) T) mc ms S := by
  obtain ⟨h1, h2⟩ := h k g S T hk hs
  obtain ⟨x, -, hf⟩ := dt_wp_M_run.one _ h1
  exact h2 _ (hf _ (fun S1 hS1 => hf _ ⟨rfl, hS1⟩))
/-- count: the reference comes to its end, and what it comes to the class comes to as well -/
def Back_count (Sim : Nat → Gm → StC → StM → Prop) : Prop := ∀ (k : Nat) (g : Gm) (S : StC) (T : StM), k < 512 → Sim k g S T → ∀ a0 : Int32, wp_M_count (fun _ _ => True) T a0 ∧ ∀ post : Int32 → StC → Prop, wp_M_count (fun r T1 => ∀ S1 : StC, Sim (k + 1) g S1 T1 → post r S1) T a0 → wp_W_count g post S a0
theorem step_count {Sim : Nat → Gm → StC → StM → Prop} {k : Nat} {g : Gm} {S : StC} {T : StM} (h : Back_count Sim) (hk : k < 512) (hs : Sim k g S T) (a0 : Int32) : wp_W_count g (fun r S1 => wp_M_count (fun r1 T1 => r = r1 ∧ Sim (k + 1) g S1 T1) T a0) S a0 := by
  obtain ⟨h1, h2⟩ := h k g S T hk hs a0
  obtain ⟨x, -, hf⟩ := dt_wp_M_count.one _ h1
  exact h2 _ (hf _ (fun S1 hS1 => hf _ ⟨rfl, hS1⟩))
/-- stack: the reference comes to its end, and what it comes to the class comes to as well -/
def Back_stack (Sim : Nat → Gm → StC → StM → Prop) : Prop := ∀ (k : Nat) (g : Gm) (S : StC) (T : StM), k < 512 → Sim k g S T → ∀ a0 : Int32, wp_M_stack (fun _ _ => True) T a0 ∧ ∀ post : Int32 → StC → Prop, wp_M_stack (fun r T1 => ∀ S1 : StC, Sim (k + 1) g S1 T1 → post r S1) T a0 → wp_W_stack g post S a0
theorem step_stack {Sim : Nat → Gm → StC → StM → Prop} {k : Nat} {g : Gm} {S : StC} {T : StM} (h : Back_stack Sim) (hk : k < 512) (hs : Sim k g S T) (a0 : Int32) : wp_W_stack g (fun r S1 => wp_M_stack (fun r1 T1 => r = r1 ∧ Sim (k + 1) g S1 T1) T a0) S a0 := by
  obtain ⟨h1, h2⟩ := h k g S T hk hs a0
  obtain ⟨x, -, hf⟩ := dt_wp_M_stack.one _ h1
  exact h2 _ (hf _ (fun S1 hS1 => hf _ ⟨rfl, hS1⟩))
/-- out: the reference comes to its end, and what it comes to the class comes to as well -/
def Back_out (Sim : Nat → Gm → StC → StM → Prop) : Prop := ∀ (k : Nat) (g : Gm) (S : StC) (T : StM), k < 512 → Sim k g S T → ∀ a0 : Int32, wp_M_out (fun _ _ => True) T a0 ∧ ∀ post : Int32 → StC → Prop, wp_M_out (fun r T1 => ∀ S1 : StC, Sim (k + 1) g S1 T1 → post r S1) T a0 → wp_W_out g post S a0
theorem step_out {Sim : Nat → Gm → StC → StM → Prop} {k : Nat} {g : Gm} {S : StC} {T : StM} (h : Back_out Sim) (hk : k < 512) (hs : Sim k g S T) (a0 : Int32) : wp_W_out g (fun r S1 => wp_M_out (fun r1 T1 => r = r1 ∧ Sim (k + 1) g S1 T1) T a0) S a0 := by
  obtain ⟨h1, h2⟩ := h k g S T hk hs a0
  obtain ⟨x, -, hf⟩ := dt_wp_M_out.one _ h1
  exact h2 _ (hf _ (fun S1 hS1 => hf _ ⟨rfl, hS1⟩))
/-- cell: the reference comes to its end, and what it comes to the class comes to as well -/
def Back_cell (Sim : Nat → Gm → StC → StM → Prop) : Prop := ∀ (k : Nat) (g : Gm) (S : StC) (T : StM), k < 512 → Sim k g S T → ∀ a0 : Int32, wp_M_cell (fun _ _ => True) T a0 ∧ ∀ post : Int32 → StC → Prop, wp_M_cell (fun r T1 => ∀ S1 : StC, Sim (k + 1) g S1 T1 → post r S1) T a0 → wp_W_cell g post S a0
theorem step_cell {Sim : Nat → Gm → StC → StM → Prop} {k : Nat} {g : Gm} {S : StC} {T : StM} (h : Back_cell Sim) (hk : k < 512) (hs : Sim k g S T) (a0 : Int32) : wp_W_cell g (fun r S1 => wp_M_cell (fun r1 T1 => r = r1 ∧ Sim (k + 1) g S1 T1) T a0) S a0 := by
  obtain ⟨h1, h2⟩ := h k g S T hk hs a0
  obtain ⟨x, -, hf⟩ := dt_wp_M_cell.one _ h1
  exact h2 _ (hf _ (fun S1 hS1 => hf _ ⟨rfl, hS1⟩))
/-- disk: the reference comes to its end, and what it comes to the class comes to as well -/
def Back_disk (Sim : Nat → Gm → StC → StM → Prop) : Prop := ∀ (k : Nat) (g : Gm) (S : StC) (T : StM), k < 512 → Sim k g S T → ∀ a0 a1 : Int32, wp_M_disk (fun _ _ => True) T a0 a1 ∧ ∀ post : Int32 → StC → Prop, wp_M_disk (fun r T1 => ∀ S1 : StC, Sim (k + 1) g S1 T1 → post r S1) T a0 a1 → wp_W_disk g post S a0 a1
theorem step_disk {Sim : Nat → Gm → StC → StM → Prop} {k : Nat} {g : Gm} {S : StC} {T : StM} (h : Back_disk Sim) (hk : k < 512) (hs : Sim k g S T) (a0 a1 : Int32) : wp_W_disk g (fun r S1 => wp_M_disk (fun r1 T1 => r = r1 ∧ Sim (k + 1) g S1 T1) T a0 a1) S a0 a1 := by
  obtain ⟨h1, h2⟩ := h k g S T hk hs a0 a1
  obtain ⟨x, -, hf⟩ := dt_wp_M_disk.one _ h1
  exact h2 _ (hf _ (fun S1 hS1 => hf _ ⟨rfl, hS1⟩))
/-- items: the reference comes to its end, and what it comes to the class comes to as well -/
def Back_items (Sim : Nat → Gm → StC → StM → Prop) : Prop := ∀ (k : Nat) (g : Gm) (S : StC) (T : StM), k < 512 → Sim k g S T → ∀ a0 : Int32, wp_M_items (fun _ _ => True) T a0 ∧ ∀ post : Int32 → StC → Prop, wp_M_items (fun r T1 => ∀ S1 : StC, Sim (k + 1) g S1 T1 → post r S1) T a0 → wp_W_items g post S a0
theorem step_items {Sim : Nat → Gm → StC → StM → Prop} {k : Nat} {g : Gm} {S : StC} {T : StM} (h : Back_items Sim) (hk : k < 512) (hs : Sim k g S T) (a0 : Int32) : wp_W_items g (fun r S1 => wp_M_items (fun r1 T1 => r = r1 ∧ Sim (k + 1) g S1 T1) T a0) S a0 := by
  obtain ⟨h1, h2⟩ := h k g S T hk hs a0
  obtain ⟨x, -, hf⟩ := dt_wp_M_items.one _ h1
  exact h2 _ (hf _ (fun S1 hS1 => hf _ ⟨rfl, hS1⟩))
/-- buffer: the reference comes to its end, and what it comes to the class comes to as well -/
def Back_buffer (Sim : Nat → Gm → StC → StM → Prop) : Prop := ∀ (k : Nat) (g : Gm) (S : StC) (T : StM), k < 512 → Sim k g S T → ∀ a0 : Int32, wp_M_buffer (fun _ _ => True) T a0 ∧ ∀ post : Int32 → StC → Prop, wp_M_buffer (fun r T1 => ∀ S1 : StC, Sim (k + 1) g S1 T1 → post r S1) T a0 → wp_W_buffer g post S a0
theorem step_buffer {Sim : Nat → Gm → StC → StM → Prop} {k : Nat} {g : Gm} {S : StC} {T : StM} (h : Back_buffer Sim) (hk : k < 512) (hs : Sim k g S T) (a0 : Int32) : wp_W_buffer g (fun r S1 => wp_M_buffer (fun r1 T1 => r = r1 ∧ Sim (k + 1) g S1 T1) T a0) S a0 := by
  obtain ⟨h1, h2⟩ := h k g S T hk hs a0
  obtain ⟨x, -, hf⟩ := dt_wp_M_buffer.one _ h1
  exact h2 _ (hf _ (fun S1 hS1 => hf _ ⟨rfl, hS1⟩))
theorem step_ok {Sim : Nat → Gm → StC → StM → Prop} {mc ms : Nat} (h0 : Back_type Sim mc ms) (h1 : Back_run Sim mc ms) (h2 : Back_count Sim) (h3 : Back_stack Sim) (h4 : Back_out Sim) (h5 : Back_cell Sim) (h6 : Back_disk Sim) (h7 : Back_items Sim) (h8 : Back_buffer Sim) (h9 : ∀ (k : Nat) (g : Gm) (S : StC) (T : StM), Sim k g S T → Sim (k + 1) g S T) : StepOK Sim mc ms := fun k g S T hk hs => ⟨fun a0 a1 => step_type h0 hk hs a0 a1, step_run h1 hk hs, fun a0 => step_count h2 hk hs a0, fun a0 => step_stack h3 hk hs a0, fun a0 => step_out h4 hk hs a0, fun a0 => step_cell h5 hk hs a0, fun a0 a1 => step_disk h6 hk hs a0 a1, fun a0 => step_items h7 hk hs a0, fun a0 => step_buffer h8 hk hs a0, h9 k g S T hs⟩
