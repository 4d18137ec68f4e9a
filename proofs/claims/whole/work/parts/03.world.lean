/-! the state of the system: int fields, int rows, long fields, long rows, each by the number of its cell -/
abbrev fcS : Type := (Nat → Nat → Int32) × (Nat → Nat → Int32) × (Nat → Nat → Int64) × (Nat → Nat → Int64)
def fgi (t : fcS) (k j : Nat) : Int32 := t.1 k j
def fga (t : fcS) (k : Nat) : Nat → Int32 := t.2.1 k
def fgj (t : fcS) (k j : Nat) : Int64 := t.2.2.1 k j
def fgl (t : fcS) (k : Nat) : Nat → Int64 := t.2.2.2 k
def fsi (t : fcS) (k j : Nat) (v : Int32) : fcS := (fun a b => if a = k ∧ b = j then v else t.1 a b, t.2)
def fsa (t : fcS) (k i : Nat) (v : Int32) : fcS := (t.1, fun a => if a = k then upd (t.2.1 k) i v else t.2.1 a, t.2.2)
def fsj (t : fcS) (k j : Nat) (v : Int64) : fcS := (t.1, t.2.1, fun a b => if a = k ∧ b = j then v else t.2.2.1 a b, t.2.2.2)
def fsl (t : fcS) (k i : Nat) (v : Int64) : fcS := (t.1, t.2.1, t.2.2.1, fun a => if a = k then vp_updL (t.2.2.2 k) i v else t.2.2.2 a)
abbrev irm (x y : Int32) : Int32 := x - x / y * y
abbrev lrm (x y : Int64) : Int64 := x - x / y * y
def fwl (adr : Nat → Nat) (N : Nat) (g : Nat → va_E) : va_W := (List.range N).map (fun k => (adr k, g k))
theorem fwl_get {adr : Nat → Nat} {N : Nat} {g : Nat → va_E} {k : Nat} (h : k < N) : (fwl adr N g)[k]? = some (adr k, g k) := by
  simp [fwl, h]
theorem fwl_inv {adr : Nat → Nat} {N : Nat} {g : Nat → va_E} {k : Nat} {q : Nat × va_E} (h : (fwl adr N g)[k]? = some q) : k < N ∧ q = (adr k, g k) := by
  rcases Nat.lt_or_ge k N with h1 | h1
  · exact ⟨h1, by rw [fwl_get h1] at h; exact (Option.some.inj h).symm⟩
  · rw [List.getElem?_eq_none (by simp [fwl]; exact h1)] at h; cases h
theorem fwl_set {adr : Nat → Nat} {N : Nat} {g g2 : Nat → va_E} {k : Nat} {e : va_E} (he : g2 k = e) (hn : ∀ a, a ≠ k → g2 a = g a) : (fwl adr N g).set k (adr k, e) = fwl adr N g2 := by
  apply List.ext_getElem?
  intro i
  rw [List.getElem?_set]
  rcases Nat.lt_or_ge i N with h1 | h1
  · rw [fwl_get h1, fwl_get h1]
    by_cases hk : k = i
    · subst hk; rw [if_pos rfl, if_pos (by simp [fwl]; exact h1), he]
    · rw [if_neg hk, hn i (fun q => hk q.symm)]
  · have e1 : (fwl adr N g)[i]? = none := List.getElem?_eq_none (by simp [fwl]; exact h1)
    have e2 : (fwl adr N g2)[i]? = none := List.getElem?_eq_none (by simp [fwl]; exact h1)
    rw [e1, e2]
    by_cases hk : k = i
    · subst hk; rw [if_pos rfl, if_neg (by simp [fwl]; exact h1)]
    · rw [if_neg hk]
def faN (adr : Nat → Nat) (N : Nat) : Nat → Prop := fun q => ∃ k, k < N ∧ q = adr k
def finj (adr : Nat → Nat) (N : Nat) : Prop := ∀ i j, i < N → j < N → adr i = adr j → i = j
theorem fwl_D {adr : Nat → Nat} {N : Nat} (g : Nat → va_E) (h : finj adr N) : va_D (faN adr N) (fwl adr N g) :=
  ⟨fun i j p q hi hj e => by
    obtain ⟨a1, a2⟩ := fwl_inv hi
    obtain ⟨b1, b2⟩ := fwl_inv hj
    subst a2; subst b2
    exact h i j a1 b1 e, fun k q hk => by
    obtain ⟨a1, a2⟩ := fwl_inv hk
    subst a2
    exact ⟨k, a1, rfl⟩⟩
def fisF (k : Nat) : Prop := 6 ≤ k ∧ k < 21 ∧ k % 3 = 0
def fisC (k : Nat) : Prop := 21 ≤ k ∧ k < 53 ∧ k % 4 = 1
def fisL (k : Nat) : Prop := 21 ≤ k ∧ k < 53 ∧ k % 4 = 3
def frF (adr : Nat → Nat) : Nat → Option Nat := fun i => if i < 5 then some (adr (6 + 3 * i)) else none
def frC (adr : Nat → Nat) : Nat → Option Nat := fun i => if i < 8 then some (adr (21 + 4 * i)) else none
def fG (adr : Nat → Nat) (cs : Nat → ClassId) (t : fcS) (k : Nat) : va_E :=
  if k = 0 then .inr (4, [.ref (adr 1), .ref (adr 2), .ref (adr 3), .ref (adr 4), .ref (adr 5), .int (fgi t k 5), .int (fgi t k 6), .int (fgi t k 7), .int (fgi t k 8), .long (fgj t k 9)])
  else if k = 1 then .inr (3, [.int (fgi t k 0)])
  else if k = 2 then .inl (cs 3, 5, .inr (.inr (.inr (.inr (frF adr)))))
  else if k = 3 then .inl (cs 2, 8, .inr (.inr (.inr (.inr (frC adr)))))
  else if k = 4 then .inl (cs 0, 343, .inl (fga t k))
  else if k = 5 then .inl (cs 1, 13, .inr (.inl (fgl t k)))
  else if k < 21 then (if k % 3 = 0 then .inr (2, [.ref (adr 1), .int (fgi t k 1), .ref (adr (k + 1)), .ref (adr (k + 2)), .int (fgi t k 4), .int (fgi t k 5), .int (fgi t k 6), .int (fgi t k 7)]) else .inl (cs 0, 343, .inl (fga t k)))
  else if k < 53 then (if k % 4 = 1 then .inr (1, [.ref (adr 1), .ref (adr (k + 2)), .ref (adr (k + 1)), .int (fgi t k 3), .int (fgi t k 4), .int (fgi t k 5), .int (fgi t k 6), .int (fgi t k 7), .int (fgi t k 8), .int (fgi t k 9)]) else if k % 4 = 3 then .inr (0, [.ref (adr 1), .ref (adr (k + 1)), .int (fgi t k 2), .int (fgi t k 3), .int (fgi t k 4)]) else if k % 4 = 2 then .inl (cs 0, 5, .inl (fga t k)) else .inl (cs 0, 450, .inl (fga t k)))
  else if k = 53 then .inr (5, [.int (fgi t k 0), .int (fgi t k 1), .int (fgi t k 2), .ref (adr 54), .ref (adr 55), .int (fgi t k 5), .int (fgi t k 6), .ref (adr 56), .ref (adr 57), .ref (adr 58), .ref (adr 59), .int (fgi t k 11), .long (fgj t k 12), .ref (adr 60), .ref (adr 61), .int (fgi t k 15), .int (fgi t k 16), .int (fgi t k 17), .ref (adr 62), .ref (adr 63), .ref (adr 64), .ref (adr 65), .ref (adr 66)])
  else if k = 54 then .inl (cs 0, 6, .inl (fga t k))
  else if k = 55 then .inl (cs 0, 6, .inl (fga t k))
  else if k = 56 then .inl (cs 0, 8, .inl (fga t k))
  else if k = 57 then .inl (cs 0, 8, .inl (fga t k))
  else if k = 58 then .inl (cs 0, 8, .inl (fga t k))
  else if k = 59 then .inl (cs 0, 128, .inl (fga t k))
  else if k = 60 then .inl (cs 0, 640, .inl (fga t k))
  else if k = 61 then .inl (cs 0, 344, .inl (fga t k))
  else if k = 62 then .inl (cs 0, 600, .inl (fga t k))
  else if k = 63 then .inl (cs 0, 600, .inl (fga t k))
  else if k = 64 then .inl (cs 0, 344, .inl (fga t k))
  else if k = 65 then .inl (cs 0, 5, .inl (fga t k))
  else .inl (cs 1, 13, .inr (.inl (fgl t k)))
set_option maxHeartbeats 4000000 in
theorem fG_fsi_ne (adr : Nat → Nat) (cs : Nat → ClassId) (t : fcS) (k j : Nat) (v : Int32) (a : Nat) (h : a ≠ k) : fG adr cs (fsi t k j v) a = fG adr cs t a := by
  have e1 : ∀ b, fgi (fsi t k j v) a b = fgi t a b := fun b => by simp [fgi, fsi, h]
  have e2 : fga (fsi t k j v) a = fga t a := by simp [fga, fsi, h]
  have e3 : ∀ b, fgj (fsi t k j v) a b = fgj t a b := fun b => by simp [fgj, fsi, h]
  have e4 : fgl (fsi t k j v) a = fgl t a := by simp [fgl, fsi, h]
  unfold fG
  simp only [e1, e2, e3, e4]
set_option maxHeartbeats 4000000 in
theorem fG_fsa_ne (adr : Nat → Nat) (cs : Nat → ClassId) (t : fcS) (k j : Nat) (v : Int32) (a : Nat) (h : a ≠ k) : fG adr cs (fsa t k j v) a = fG adr cs t a := by
  have e1 : ∀ b, fgi (fsa t k j v) a b = fgi t a b := fun b => by simp [fgi, fsa, h]
  have e2 : fga (fsa t k j v) a = fga t a := by simp [fga, fsa, h]
  have e3 : ∀ b, fgj (fsa t k j v) a b = fgj t a b := fun b => by simp [fgj, fsa, h]
  have e4 : fgl (fsa t k j v) a = fgl t a := by simp [fgl, fsa, h]
  unfold fG
  simp only [e1, e2, e3, e4]
set_option maxHeartbeats 4000000 in
theorem fG_fsj_ne (adr : Nat → Nat) (cs : Nat → ClassId) (t : fcS) (k j : Nat) (v : Int64) (a : Nat) (h : a ≠ k) : fG adr cs (fsj t k j v) a = fG adr cs t a := by
  have e1 : ∀ b, fgi (fsj t k j v) a b = fgi t a b := fun b => by simp [fgi, fsj, h]
  have e2 : fga (fsj t k j v) a = fga t a := by simp [fga, fsj, h]
  have e3 : ∀ b, fgj (fsj t k j v) a b = fgj t a b := fun b => by simp [fgj, fsj, h]
  have e4 : fgl (fsj t k j v) a = fgl t a := by simp [fgl, fsj, h]
  unfold fG
  simp only [e1, e2, e3, e4]
set_option maxHeartbeats 4000000 in
theorem fG_fsl_ne (adr : Nat → Nat) (cs : Nat → ClassId) (t : fcS) (k j : Nat) (v : Int64) (a : Nat) (h : a ≠ k) : fG adr cs (fsl t k j v) a = fG adr cs t a := by
  have e1 : ∀ b, fgi (fsl t k j v) a b = fgi t a b := fun b => by simp [fgi, fsl, h]
  have e2 : fga (fsl t k j v) a = fga t a := by simp [fga, fsl, h]
  have e3 : ∀ b, fgj (fsl t k j v) a b = fgj t a b := fun b => by simp [fgj, fsl, h]
  have e4 : fgl (fsl t k j v) a = fgl t a := by simp [fgl, fsl, h]
  unfold fG
  simp only [e1, e2, e3, e4]
theorem fG_FC (adr : Nat → Nat) (cs : Nat → ClassId) (t : fcS) : fG adr cs t 0 = .inr (4, [.ref (adr 1), .ref (adr 2), .ref (adr 3), .ref (adr 4), .ref (adr 5), .int (fgi t 0 5), .int (fgi t 0 6), .int (fgi t 0 7), .int (fgi t 0 8), .long (fgj t 0 9)]) := rfl
theorem fG_PO (adr : Nat → Nat) (cs : Nat → ClassId) (t : fcS) : fG adr cs t 1 = .inr (3, [.int (fgi t 1 0)]) := rfl
theorem fG_2 (adr : Nat → Nat) (cs : Nat → ClassId) (t : fcS) : fG adr cs t 2 = .inl (cs 3, 5, .inr (.inr (.inr (.inr (frF adr))))) := rfl
theorem fG_3 (adr : Nat → Nat) (cs : Nat → ClassId) (t : fcS) : fG adr cs t 3 = .inl (cs 2, 8, .inr (.inr (.inr (.inr (frC adr))))) := rfl
theorem fG_4 (adr : Nat → Nat) (cs : Nat → ClassId) (t : fcS) : fG adr cs t 4 = .inl (cs 0, 343, .inl (fga t 4)) := rfl
theorem fG_5 (adr : Nat → Nat) (cs : Nat → ClassId) (t : fcS) : fG adr cs t 5 = .inl (cs 1, 13, .inr (.inl (fgl t 5))) := rfl
theorem fG_MO (adr : Nat → Nat) (cs : Nat → ClassId) (t : fcS) : fG adr cs t 53 = .inr (5, [.int (fgi t 53 0), .int (fgi t 53 1), .int (fgi t 53 2), .ref (adr 54), .ref (adr 55), .int (fgi t 53 5), .int (fgi t 53 6), .ref (adr 56), .ref (adr 57), .ref (adr 58), .ref (adr 59), .int (fgi t 53 11), .long (fgj t 53 12), .ref (adr 60), .ref (adr 61), .int (fgi t 53 15), .int (fgi t 53 16), .int (fgi t 53 17), .ref (adr 62), .ref (adr 63), .ref (adr 64), .ref (adr 65), .ref (adr 66)]) := rfl
theorem fG_54 (adr : Nat → Nat) (cs : Nat → ClassId) (t : fcS) : fG adr cs t 54 = .inl (cs 0, 6, .inl (fga t 54)) := rfl
theorem fG_55 (adr : Nat → Nat) (cs : Nat → ClassId) (t : fcS) : fG adr cs t 55 = .inl (cs 0, 6, .inl (fga t 55)) := rfl
theorem fG_56 (adr : Nat → Nat) (cs : Nat → ClassId) (t : fcS) : fG adr cs t 56 = .inl (cs 0, 8, .inl (fga t 56)) := rfl
theorem fG_57 (adr : Nat → Nat) (cs : Nat → ClassId) (t : fcS) : fG adr cs t 57 = .inl (cs 0, 8, .inl (fga t 57)) := rfl
theorem fG_58 (adr : Nat → Nat) (cs : Nat → ClassId) (t : fcS) : fG adr cs t 58 = .inl (cs 0, 8, .inl (fga t 58)) := rfl
theorem fG_59 (adr : Nat → Nat) (cs : Nat → ClassId) (t : fcS) : fG adr cs t 59 = .inl (cs 0, 128, .inl (fga t 59)) := rfl
theorem fG_60 (adr : Nat → Nat) (cs : Nat → ClassId) (t : fcS) : fG adr cs t 60 = .inl (cs 0, 640, .inl (fga t 60)) := rfl
theorem fG_61 (adr : Nat → Nat) (cs : Nat → ClassId) (t : fcS) : fG adr cs t 61 = .inl (cs 0, 344, .inl (fga t 61)) := rfl
theorem fG_62 (adr : Nat → Nat) (cs : Nat → ClassId) (t : fcS) : fG adr cs t 62 = .inl (cs 0, 600, .inl (fga t 62)) := rfl
theorem fG_63 (adr : Nat → Nat) (cs : Nat → ClassId) (t : fcS) : fG adr cs t 63 = .inl (cs 0, 600, .inl (fga t 63)) := rfl
theorem fG_64 (adr : Nat → Nat) (cs : Nat → ClassId) (t : fcS) : fG adr cs t 64 = .inl (cs 0, 344, .inl (fga t 64)) := rfl
theorem fG_65 (adr : Nat → Nat) (cs : Nat → ClassId) (t : fcS) : fG adr cs t 65 = .inl (cs 0, 5, .inl (fga t 65)) := rfl
theorem fG_66 (adr : Nat → Nat) (cs : Nat → ClassId) (t : fcS) : fG adr cs t 66 = .inl (cs 1, 13, .inr (.inl (fgl t 66))) := rfl
theorem fG_FI (adr : Nat → Nat) (cs : Nat → ClassId) (t : fcS) {k : Nat} (h : fisF k) : fG adr cs t k = .inr (2, [.ref (adr 1), .int (fgi t k 1), .ref (adr (k + 1)), .ref (adr (k + 2)), .int (fgi t k 4), .int (fgi t k 5), .int (fgi t k 6), .int (fgi t k 7)]) := by
  unfold fG
  obtain ⟨h1, h2, h3⟩ := h
  rw [if_neg (show ¬ k = 0 by omega), if_neg (show ¬ k = 1 by omega), if_neg (show ¬ k = 2 by omega), if_neg (show ¬ k = 3 by omega), if_neg (show ¬ k = 4 by omega), if_neg (show ¬ k = 5 by omega), if_pos (show k < 21 by omega), if_pos (show k % 3 = 0 by omega)]
theorem fG_FP (adr : Nat → Nat) (cs : Nat → ClassId) (t : fcS) {k : Nat} (h : fisF k) : fG adr cs t (k + 1) = .inl (cs 0, 343, .inl (fga t (k + 1))) := by
  unfold fG
  obtain ⟨h1, h2, h3⟩ := h
  rw [if_neg (show ¬ (k + 1) = 0 by omega), if_neg (show ¬ (k + 1) = 1 by omega), if_neg (show ¬ (k + 1) = 2 by omega), if_neg (show ¬ (k + 1) = 3 by omega), if_neg (show ¬ (k + 1) = 4 by omega), if_neg (show ¬ (k + 1) = 5 by omega), if_pos (show (k + 1) < 21 by omega), if_neg (show ¬ (k + 1) % 3 = 0 by omega)]
theorem fG_FE (adr : Nat → Nat) (cs : Nat → ClassId) (t : fcS) {k : Nat} (h : fisF k) : fG adr cs t (k + 2) = .inl (cs 0, 343, .inl (fga t (k + 2))) := by
  unfold fG
  obtain ⟨h1, h2, h3⟩ := h
  rw [if_neg (show ¬ (k + 2) = 0 by omega), if_neg (show ¬ (k + 2) = 1 by omega), if_neg (show ¬ (k + 2) = 2 by omega), if_neg (show ¬ (k + 2) = 3 by omega), if_neg (show ¬ (k + 2) = 4 by omega), if_neg (show ¬ (k + 2) = 5 by omega), if_pos (show (k + 2) < 21 by omega), if_neg (show ¬ (k + 2) % 3 = 0 by omega)]
theorem fG_CU (adr : Nat → Nat) (cs : Nat → ClassId) (t : fcS) {k : Nat} (h : fisC k) : fG adr cs t k = .inr (1, [.ref (adr 1), .ref (adr (k + 2)), .ref (adr (k + 1)), .int (fgi t k 3), .int (fgi t k 4), .int (fgi t k 5), .int (fgi t k 6), .int (fgi t k 7), .int (fgi t k 8), .int (fgi t k 9)]) := by
  unfold fG
  obtain ⟨h1, h2, h3⟩ := h
  rw [if_neg (show ¬ k = 0 by omega), if_neg (show ¬ k = 1 by omega), if_neg (show ¬ k = 2 by omega), if_neg (show ¬ k = 3 by omega), if_neg (show ¬ k = 4 by omega), if_neg (show ¬ k = 5 by omega), if_neg (show ¬ k < 21 by omega), if_pos (show k < 53 by omega), if_pos (show k % 4 = 1 by omega)]
theorem fG_CS (adr : Nat → Nat) (cs : Nat → ClassId) (t : fcS) {k : Nat} (h : fisC k) : fG adr cs t (k + 1) = .inl (cs 0, 5, .inl (fga t (k + 1))) := by
  unfold fG
  obtain ⟨h1, h2, h3⟩ := h
  rw [if_neg (show ¬ (k + 1) = 0 by omega), if_neg (show ¬ (k + 1) = 1 by omega), if_neg (show ¬ (k + 1) = 2 by omega), if_neg (show ¬ (k + 1) = 3 by omega), if_neg (show ¬ (k + 1) = 4 by omega), if_neg (show ¬ (k + 1) = 5 by omega), if_neg (show ¬ (k + 1) < 21 by omega), if_pos (show (k + 1) < 53 by omega), if_neg (show ¬ (k + 1) % 4 = 1 by omega), if_neg (show ¬ (k + 1) % 4 = 3 by omega), if_pos (show (k + 1) % 4 = 2 by omega)]
theorem fG_CL (adr : Nat → Nat) (cs : Nat → ClassId) (t : fcS) {k : Nat} (h : fisL k) : fG adr cs t k = .inr (0, [.ref (adr 1), .ref (adr (k + 1)), .int (fgi t k 2), .int (fgi t k 3), .int (fgi t k 4)]) := by
  unfold fG
  obtain ⟨h1, h2, h3⟩ := h
  rw [if_neg (show ¬ k = 0 by omega), if_neg (show ¬ k = 1 by omega), if_neg (show ¬ k = 2 by omega), if_neg (show ¬ k = 3 by omega), if_neg (show ¬ k = 4 by omega), if_neg (show ¬ k = 5 by omega), if_neg (show ¬ k < 21 by omega), if_pos (show k < 53 by omega), if_neg (show ¬ k % 4 = 1 by omega), if_pos (show k % 4 = 3 by omega)]
theorem fG_LK (adr : Nat → Nat) (cs : Nat → ClassId) (t : fcS) {k : Nat} (h : fisL k) : fG adr cs t (k + 1) = .inl (cs 0, 450, .inl (fga t (k + 1))) := by
  unfold fG
  obtain ⟨h1, h2, h3⟩ := h
  rw [if_neg (show ¬ (k + 1) = 0 by omega), if_neg (show ¬ (k + 1) = 1 by omega), if_neg (show ¬ (k + 1) = 2 by omega), if_neg (show ¬ (k + 1) = 3 by omega), if_neg (show ¬ (k + 1) = 4 by omega), if_neg (show ¬ (k + 1) = 5 by omega), if_neg (show ¬ (k + 1) < 21 by omega), if_pos (show (k + 1) < 53 by omega), if_neg (show ¬ (k + 1) % 4 = 1 by omega), if_neg (show ¬ (k + 1) % 4 = 3 by omega), if_neg (show ¬ (k + 1) % 4 = 2 by omega)]
theorem fisL_of {k : Nat} (h : fisC k) : fisL (k + 2) := by obtain ⟨h1, h2, h3⟩ := h; exact ⟨by omega, by omega, by omega⟩
theorem fS_FC_5 (adr : Nat → Nat) (cs : Nat → ClassId) (t : fcS) (v : Int32) : fG adr cs (fsi t 0 5 v) 0 = .inr (4, [.ref (adr 1), .ref (adr 2), .ref (adr 3), .ref (adr 4), .ref (adr 5), .int v, .int (fgi t 0 6), .int (fgi t 0 7), .int (fgi t 0 8), .long (fgj t 0 9)]) := rfl
theorem fS_FC_6 (adr : Nat → Nat) (cs : Nat → ClassId) (t : fcS) (v : Int32) : fG adr cs (fsi t 0 6 v) 0 = .inr (4, [.ref (adr 1), .ref (adr 2), .ref (adr 3), .ref (adr 4), .ref (adr 5), .int (fgi t 0 5), .int v, .int (fgi t 0 7), .int (fgi t 0 8), .long (fgj t 0 9)]) := rfl
theorem fS_FC_7 (adr : Nat → Nat) (cs : Nat → ClassId) (t : fcS) (v : Int32) : fG adr cs (fsi t 0 7 v) 0 = .inr (4, [.ref (adr 1), .ref (adr 2), .ref (adr 3), .ref (adr 4), .ref (adr 5), .int (fgi t 0 5), .int (fgi t 0 6), .int v, .int (fgi t 0 8), .long (fgj t 0 9)]) := rfl
theorem fS_FC_8 (adr : Nat → Nat) (cs : Nat → ClassId) (t : fcS) (v : Int32) : fG adr cs (fsi t 0 8 v) 0 = .inr (4, [.ref (adr 1), .ref (adr 2), .ref (adr 3), .ref (adr 4), .ref (adr 5), .int (fgi t 0 5), .int (fgi t 0 6), .int (fgi t 0 7), .int v, .long (fgj t 0 9)]) := rfl
theorem fS_FC_9 (adr : Nat → Nat) (cs : Nat → ClassId) (t : fcS) (v : Int64) : fG adr cs (fsj t 0 9 v) 0 = .inr (4, [.ref (adr 1), .ref (adr 2), .ref (adr 3), .ref (adr 4), .ref (adr 5), .int (fgi t 0 5), .int (fgi t 0 6), .int (fgi t 0 7), .int (fgi t 0 8), .long v]) := rfl
theorem fS_PO_0 (adr : Nat → Nat) (cs : Nat → ClassId) (t : fcS) (v : Int32) : fG adr cs (fsi t 1 0 v) 1 = .inr (3, [.int v]) := rfl
theorem fS_FI_4 (adr : Nat → Nat) (cs : Nat → ClassId) (t : fcS) {k : Nat} (h : fisF k) (v : Int32) : fG adr cs (fsi t k 4 v) k = .inr (2, [.ref (adr 1), .int (fgi t k 1), .ref (adr (k + 1)), .ref (adr (k + 2)), .int v, .int (fgi t k 5), .int (fgi t k 6), .int (fgi t k 7)]) := by
  rw [fG_FI adr cs _ h]; simp [fgi, fgj, fsi, fsj]
theorem fS_FI_5 (adr : Nat → Nat) (cs : Nat → ClassId) (t : fcS) {k : Nat} (h : fisF k) (v : Int32) : fG adr cs (fsi t k 5 v) k = .inr (2, [.ref (adr 1), .int (fgi t k 1), .ref (adr (k + 1)), .ref (adr (k + 2)), .int (fgi t k 4), .int v, .int (fgi t k 6), .int (fgi t k 7)]) := by
  rw [fG_FI adr cs _ h]; simp [fgi, fgj, fsi, fsj]
theorem fS_FI_6 (adr : Nat → Nat) (cs : Nat → ClassId) (t : fcS) {k : Nat} (h : fisF k) (v : Int32) : fG adr cs (fsi t k 6 v) k = .inr (2, [.ref (adr 1), .int (fgi t k 1), .ref (adr (k + 1)), .ref (adr (k + 2)), .int (fgi t k 4), .int (fgi t k 5), .int v, .int (fgi t k 7)]) := by
  rw [fG_FI adr cs _ h]; simp [fgi, fgj, fsi, fsj]
theorem fS_FI_7 (adr : Nat → Nat) (cs : Nat → ClassId) (t : fcS) {k : Nat} (h : fisF k) (v : Int32) : fG adr cs (fsi t k 7 v) k = .inr (2, [.ref (adr 1), .int (fgi t k 1), .ref (adr (k + 1)), .ref (adr (k + 2)), .int (fgi t k 4), .int (fgi t k 5), .int (fgi t k 6), .int v]) := by
  rw [fG_FI adr cs _ h]; simp [fgi, fgj, fsi, fsj]
theorem fS_CU_3 (adr : Nat → Nat) (cs : Nat → ClassId) (t : fcS) {k : Nat} (h : fisC k) (v : Int32) : fG adr cs (fsi t k 3 v) k = .inr (1, [.ref (adr 1), .ref (adr (k + 2)), .ref (adr (k + 1)), .int v, .int (fgi t k 4), .int (fgi t k 5), .int (fgi t k 6), .int (fgi t k 7), .int (fgi t k 8), .int (fgi t k 9)]) := by
  rw [fG_CU adr cs _ h]; simp [fgi, fgj, fsi, fsj]
theorem fS_CU_4 (adr : Nat → Nat) (cs : Nat → ClassId) (t : fcS) {k : Nat} (h : fisC k) (v : Int32) : fG adr cs (fsi t k 4 v) k = .inr (1, [.ref (adr 1), .ref (adr (k + 2)), .ref (adr (k + 1)), .int (fgi t k 3), .int v, .int (fgi t k 5), .int (fgi t k 6), .int (fgi t k 7), .int (fgi t k 8), .int (fgi t k 9)]) := by
  rw [fG_CU adr cs _ h]; simp [fgi, fgj, fsi, fsj]
theorem fS_CU_5 (adr : Nat → Nat) (cs : Nat → ClassId) (t : fcS) {k : Nat} (h : fisC k) (v : Int32) : fG adr cs (fsi t k 5 v) k = .inr (1, [.ref (adr 1), .ref (adr (k + 2)), .ref (adr (k + 1)), .int (fgi t k 3), .int (fgi t k 4), .int v, .int (fgi t k 6), .int (fgi t k 7), .int (fgi t k 8), .int (fgi t k 9)]) := by
  rw [fG_CU adr cs _ h]; simp [fgi, fgj, fsi, fsj]
theorem fS_CU_6 (adr : Nat → Nat) (cs : Nat → ClassId) (t : fcS) {k : Nat} (h : fisC k) (v : Int32) : fG adr cs (fsi t k 6 v) k = .inr (1, [.ref (adr 1), .ref (adr (k + 2)), .ref (adr (k + 1)), .int (fgi t k 3), .int (fgi t k 4), .int (fgi t k 5), .int v, .int (fgi t k 7), .int (fgi t k 8), .int (fgi t k 9)]) := by
  rw [fG_CU adr cs _ h]; simp [fgi, fgj, fsi, fsj]
theorem fS_CU_7 (adr : Nat → Nat) (cs : Nat → ClassId) (t : fcS) {k : Nat} (h : fisC k) (v : Int32) : fG adr cs (fsi t k 7 v) k = .inr (1, [.ref (adr 1), .ref (adr (k + 2)), .ref (adr (k + 1)), .int (fgi t k 3), .int (fgi t k 4), .int (fgi t k 5), .int (fgi t k 6), .int v, .int (fgi t k 8), .int (fgi t k 9)]) := by
  rw [fG_CU adr cs _ h]; simp [fgi, fgj, fsi, fsj]
theorem fS_CU_8 (adr : Nat → Nat) (cs : Nat → ClassId) (t : fcS) {k : Nat} (h : fisC k) (v : Int32) : fG adr cs (fsi t k 8 v) k = .inr (1, [.ref (adr 1), .ref (adr (k + 2)), .ref (adr (k + 1)), .int (fgi t k 3), .int (fgi t k 4), .int (fgi t k 5), .int (fgi t k 6), .int (fgi t k 7), .int v, .int (fgi t k 9)]) := by
  rw [fG_CU adr cs _ h]; simp [fgi, fgj, fsi, fsj]
theorem fS_CU_9 (adr : Nat → Nat) (cs : Nat → ClassId) (t : fcS) {k : Nat} (h : fisC k) (v : Int32) : fG adr cs (fsi t k 9 v) k = .inr (1, [.ref (adr 1), .ref (adr (k + 2)), .ref (adr (k + 1)), .int (fgi t k 3), .int (fgi t k 4), .int (fgi t k 5), .int (fgi t k 6), .int (fgi t k 7), .int (fgi t k 8), .int v]) := by
  rw [fG_CU adr cs _ h]; simp [fgi, fgj, fsi, fsj]
theorem fS_CL_2 (adr : Nat → Nat) (cs : Nat → ClassId) (t : fcS) {k : Nat} (h : fisL k) (v : Int32) : fG adr cs (fsi t k 2 v) k = .inr (0, [.ref (adr 1), .ref (adr (k + 1)), .int v, .int (fgi t k 3), .int (fgi t k 4)]) := by
  rw [fG_CL adr cs _ h]; simp [fgi, fgj, fsi, fsj]
theorem fS_CL_3 (adr : Nat → Nat) (cs : Nat → ClassId) (t : fcS) {k : Nat} (h : fisL k) (v : Int32) : fG adr cs (fsi t k 3 v) k = .inr (0, [.ref (adr 1), .ref (adr (k + 1)), .int (fgi t k 2), .int v, .int (fgi t k 4)]) := by
  rw [fG_CL adr cs _ h]; simp [fgi, fgj, fsi, fsj]
theorem fS_CL_4 (adr : Nat → Nat) (cs : Nat → ClassId) (t : fcS) {k : Nat} (h : fisL k) (v : Int32) : fG adr cs (fsi t k 4 v) k = .inr (0, [.ref (adr 1), .ref (adr (k + 1)), .int (fgi t k 2), .int (fgi t k 3), .int v]) := by
  rw [fG_CL adr cs _ h]; simp [fgi, fgj, fsi, fsj]
theorem fS_MO_0 (adr : Nat → Nat) (cs : Nat → ClassId) (t : fcS) (v : Int32) : fG adr cs (fsi t 53 0 v) 53 = .inr (5, [.int v, .int (fgi t 53 1), .int (fgi t 53 2), .ref (adr 54), .ref (adr 55), .int (fgi t 53 5), .int (fgi t 53 6), .ref (adr 56), .ref (adr 57), .ref (adr 58), .ref (adr 59), .int (fgi t 53 11), .long (fgj t 53 12), .ref (adr 60), .ref (adr 61), .int (fgi t 53 15), .int (fgi t 53 16), .int (fgi t 53 17), .ref (adr 62), .ref (adr 63), .ref (adr 64), .ref (adr 65), .ref (adr 66)]) := rfl
theorem fS_MO_1 (adr : Nat → Nat) (cs : Nat → ClassId) (t : fcS) (v : Int32) : fG adr cs (fsi t 53 1 v) 53 = .inr (5, [.int (fgi t 53 0), .int v, .int (fgi t 53 2), .ref (adr 54), .ref (adr 55), .int (fgi t 53 5), .int (fgi t 53 6), .ref (adr 56), .ref (adr 57), .ref (adr 58), .ref (adr 59), .int (fgi t 53 11), .long (fgj t 53 12), .ref (adr 60), .ref (adr 61), .int (fgi t 53 15), .int (fgi t 53 16), .int (fgi t 53 17), .ref (adr 62), .ref (adr 63), .ref (adr 64), .ref (adr 65), .ref (adr 66)]) := rfl
theorem fS_MO_2 (adr : Nat → Nat) (cs : Nat → ClassId) (t : fcS) (v : Int32) : fG adr cs (fsi t 53 2 v) 53 = .inr (5, [.int (fgi t 53 0), .int (fgi t 53 1), .int v, .ref (adr 54), .ref (adr 55), .int (fgi t 53 5), .int (fgi t 53 6), .ref (adr 56), .ref (adr 57), .ref (adr 58), .ref (adr 59), .int (fgi t 53 11), .long (fgj t 53 12), .ref (adr 60), .ref (adr 61), .int (fgi t 53 15), .int (fgi t 53 16), .int (fgi t 53 17), .ref (adr 62), .ref (adr 63), .ref (adr 64), .ref (adr 65), .ref (adr 66)]) := rfl
theorem fS_MO_5 (adr : Nat → Nat) (cs : Nat → ClassId) (t : fcS) (v : Int32) : fG adr cs (fsi t 53 5 v) 53 = .inr (5, [.int (fgi t 53 0), .int (fgi t 53 1), .int (fgi t 53 2), .ref (adr 54), .ref (adr 55), .int v, .int (fgi t 53 6), .ref (adr 56), .ref (adr 57), .ref (adr 58), .ref (adr 59), .int (fgi t 53 11), .long (fgj t 53 12), .ref (adr 60), .ref (adr 61), .int (fgi t 53 15), .int (fgi t 53 16), .int (fgi t 53 17), .ref (adr 62), .ref (adr 63), .ref (adr 64), .ref (adr 65), .ref (adr 66)]) := rfl
theorem fS_MO_6 (adr : Nat → Nat) (cs : Nat → ClassId) (t : fcS) (v : Int32) : fG adr cs (fsi t 53 6 v) 53 = .inr (5, [.int (fgi t 53 0), .int (fgi t 53 1), .int (fgi t 53 2), .ref (adr 54), .ref (adr 55), .int (fgi t 53 5), .int v, .ref (adr 56), .ref (adr 57), .ref (adr 58), .ref (adr 59), .int (fgi t 53 11), .long (fgj t 53 12), .ref (adr 60), .ref (adr 61), .int (fgi t 53 15), .int (fgi t 53 16), .int (fgi t 53 17), .ref (adr 62), .ref (adr 63), .ref (adr 64), .ref (adr 65), .ref (adr 66)]) := rfl
theorem fS_MO_11 (adr : Nat → Nat) (cs : Nat → ClassId) (t : fcS) (v : Int32) : fG adr cs (fsi t 53 11 v) 53 = .inr (5, [.int (fgi t 53 0), .int (fgi t 53 1), .int (fgi t 53 2), .ref (adr 54), .ref (adr 55), .int (fgi t 53 5), .int (fgi t 53 6), .ref (adr 56), .ref (adr 57), .ref (adr 58), .ref (adr 59), .int v, .long (fgj t 53 12), .ref (adr 60), .ref (adr 61), .int (fgi t 53 15), .int (fgi t 53 16), .int (fgi t 53 17), .ref (adr 62), .ref (adr 63), .ref (adr 64), .ref (adr 65), .ref (adr 66)]) := rfl
theorem fS_MO_12 (adr : Nat → Nat) (cs : Nat → ClassId) (t : fcS) (v : Int64) : fG adr cs (fsj t 53 12 v) 53 = .inr (5, [.int (fgi t 53 0), .int (fgi t 53 1), .int (fgi t 53 2), .ref (adr 54), .ref (adr 55), .int (fgi t 53 5), .int (fgi t 53 6), .ref (adr 56), .ref (adr 57), .ref (adr 58), .ref (adr 59), .int (fgi t 53 11), .long v, .ref (adr 60), .ref (adr 61), .int (fgi t 53 15), .int (fgi t 53 16), .int (fgi t 53 17), .ref (adr 62), .ref (adr 63), .ref (adr 64), .ref (adr 65), .ref (adr 66)]) := rfl
theorem fS_MO_15 (adr : Nat → Nat) (cs : Nat → ClassId) (t : fcS) (v : Int32) : fG adr cs (fsi t 53 15 v) 53 = .inr (5, [.int (fgi t 53 0), .int (fgi t 53 1), .int (fgi t 53 2), .ref (adr 54), .ref (adr 55), .int (fgi t 53 5), .int (fgi t 53 6), .ref (adr 56), .ref (adr 57), .ref (adr 58), .ref (adr 59), .int (fgi t 53 11), .long (fgj t 53 12), .ref (adr 60), .ref (adr 61), .int v, .int (fgi t 53 16), .int (fgi t 53 17), .ref (adr 62), .ref (adr 63), .ref (adr 64), .ref (adr 65), .ref (adr 66)]) := rfl
theorem fS_MO_16 (adr : Nat → Nat) (cs : Nat → ClassId) (t : fcS) (v : Int32) : fG adr cs (fsi t 53 16 v) 53 = .inr (5, [.int (fgi t 53 0), .int (fgi t 53 1), .int (fgi t 53 2), .ref (adr 54), .ref (adr 55), .int (fgi t 53 5), .int (fgi t 53 6), .ref (adr 56), .ref (adr 57), .ref (adr 58), .ref (adr 59), .int (fgi t 53 11), .long (fgj t 53 12), .ref (adr 60), .ref (adr 61), .int (fgi t 53 15), .int v, .int (fgi t 53 17), .ref (adr 62), .ref (adr 63), .ref (adr 64), .ref (adr 65), .ref (adr 66)]) := rfl
theorem fS_MO_17 (adr : Nat → Nat) (cs : Nat → ClassId) (t : fcS) (v : Int32) : fG adr cs (fsi t 53 17 v) 53 = .inr (5, [.int (fgi t 53 0), .int (fgi t 53 1), .int (fgi t 53 2), .ref (adr 54), .ref (adr 55), .int (fgi t 53 5), .int (fgi t 53 6), .ref (adr 56), .ref (adr 57), .ref (adr 58), .ref (adr 59), .int (fgi t 53 11), .long (fgj t 53 12), .ref (adr 60), .ref (adr 61), .int (fgi t 53 15), .int (fgi t 53 16), .int v, .ref (adr 62), .ref (adr 63), .ref (adr 64), .ref (adr 65), .ref (adr 66)]) := rfl
theorem fS_row {adr : Nat → Nat} {cs : Nat → ClassId} {t : fcS} {k n : Nat} (h : ∀ u : fcS, fG adr cs u k = .inl (cs 0, n, .inl (fga u k))) (i : Nat) (v : Int32) : fG adr cs (fsa t k i v) k = .inl (cs 0, n, .inl (upd (fga t k) i v)) := by
  rw [h]; simp [fga, fsa]
theorem fS_rowL {adr : Nat → Nat} {cs : Nat → ClassId} {t : fcS} {k n : Nat} (h : ∀ u : fcS, fG adr cs u k = .inl (cs 1, n, .inr (.inl (fgl u k)))) (i : Nat) (v : Int64) : fG adr cs (fsl t k i v) k = .inl (cs 1, n, .inr (.inl (vp_updL (fgl t k) i v))) := by
  rw [h]; simp [fgl, fsl]
def ftys (cs : Nat → ClassId) : List (ClassId × FieldType) := [(cs 0, .int), (cs 1, .long), (cs 2, .object "FieldCounts$Curve"), (cs 3, .object "FieldCounts$Field")]
