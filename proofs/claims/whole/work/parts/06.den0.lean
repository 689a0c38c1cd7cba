/-! the state: what each cell's slot holds; runs as functions that may fail -/
abbrev St : Type := Nat → Nat → Int32
def pt (σ : St) (k i : Nat) (v : Int32) : St := fun k' => bif Nat.beq k' k then upd (σ k') i v else σ k'
def pa (σ : St) (k : Nat) (f : Nat → Int32) : St := fun k' => bif Nat.beq k' k then f else σ k'
def gi {α : Type} (i : Int32) (n : Nat) (x : Option α) : Option α := if i < 0 ∨ n ≤ i.toNatClampNeg then none else x
def gz {α : Type} (y : Int32) (x : Option α) : Option α := if y = 0 then none else x
def gb {α : Type} (y : Int32) (x : Option α) : Option α := if y = 0 ∨ y = 1 then x else none
def bp {α β : Type} (x : Option α) (f : α → Option β) : Option β := x.bind f
def bs {α β γ : Type} (x : Option (α × β)) (f : α → β → Option γ) : Option γ := x.bind (fun q => f q.1 q.2)
theorem gi_some {α : Type} {i : Int32} {n : Nat} {x : Option α} {y : α} (h : gi i n x = some y) : vp_in i n ∧ x = some y := by
  unfold gi at h
  by_cases c : i < 0 ∨ n ≤ i.toNatClampNeg
  · rw [if_pos c] at h; cases h
  · rw [if_neg c] at h; exact ⟨c, h⟩
theorem gz_some {α : Type} {i : Int32} {x : Option α} {y : α} (h : gz i x = some y) : ¬ i = 0 ∧ x = some y := by
  unfold gz at h
  by_cases c : i = 0
  · rw [if_pos c] at h; cases h
  · rw [if_neg c] at h; exact ⟨c, h⟩
theorem gb_some {α : Type} {i : Int32} {x : Option α} {y : α} (h : gb i x = some y) : (i = 0 ∨ i = 1) ∧ x = some y := by
  unfold gb at h
  by_cases c : i = 0 ∨ i = 1
  · rw [if_pos c] at h; exact ⟨c, h⟩
  · rw [if_neg c] at h; cases h
theorem bp_some {α β : Type} {x : Option α} {f : α → Option β} {y : β} (h : bp x f = some y) : ∃ a, x = some a ∧ f a = some y := Option.bind_eq_some_iff.mp h
theorem bs_some {α β γ : Type} {x : Option (α × β)} {f : α → β → Option γ} {y : γ} (h : bs x f = some y) : ∃ (a : α) (b : β), x = some (a, b) ∧ f a b = some y := by
  obtain ⟨⟨a, b⟩, h1, h2⟩ := Option.bind_eq_some_iff.mp h
  exact ⟨a, b, h1, h2⟩
theorem b_t {α : Type} {c : Prop} {_ : Decidable c} {x y z : α} (h : c) (e : (if c then x else y) = z) : x = z := by rw [if_pos h] at e; exact e
theorem b_f {α : Type} {c : Prop} {_ : Decidable c} {x y z : α} (h : ¬ c) (e : (if c then x else y) = z) : y = z := by rw [if_neg h] at e; exact e
theorem b_n {α : Type} {c : Prop} {_ : Decidable c} {x y z : α} (h : ¬ c) (e : (if c then x else y) = z) : y = z := by rw [if_neg h] at e; exact e
theorem so_inj {α : Type} {x y : α} (h : some x = some y) : x = y := Option.some.inj h

def gk {α : Type} (k : Nat) (x : Option α) : Option α := if k < 5 then x else none
theorem gk_some {α : Type} {k : Nat} {x : Option α} {y : α} (h : gk k x = some y) : k < 5 ∧ x = some y := by
  unfold gk at h
  by_cases c : k < 5
  · rw [if_pos c] at h; exact ⟨c, h⟩
  · rw [if_neg c] at h; cases h
/-- whether a judge of a kind is one of that kind -/
def inK (nx k : Nat) : Int32 := if nx = 1 then (if k = 1 ∨ k = 4 then 1 else 0) else (if k = nx then 1 else 0)
def bt5 (i : Int32) : Int32 := ([106, 115, 116, 119, 99] : List Int32).getD i.toNatClampNeg 0
/-- the place of a letter in "jstwc" -/
def kix (x : Int32) : Int32 := if x = 106 then 0 else if x = 115 then 1 else if x = 116 then 2 else if x = 119 then 3 else if x = 99 then 4 else -1
