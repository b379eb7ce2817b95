/-- a law's bit in a mask -/
def bit (x : Int32) (l : Nat) : Prop := ((x >>> (nI l &&& 31)) &&& (nI 1)) = nI 1
def bitok : Bool := (List.range 12).all fun l => (List.range 4096).all fun x => ((nI x >>> (nI l &&& 31)) &&& (nI 1)) == nI (x / 2 ^ l % 2) && (if x / 2 ^ l % 2 = 1 then nI x &&& (((nI 1) <<< (nI l &&& 31)) ^^^ (-1)) == nI (x - 2 ^ l) else nI x ||| ((nI 1) <<< (nI l &&& 31)) == nI (x + 2 ^ l))
theorem bitok_t : bitok = true := by decide +kernel
theorem bit_ok {x l : Nat} (hx : x < 4096) (hl : l < 12) : (bit (nI x) l ↔ x / 2 ^ l % 2 = 1) ∧ (x / 2 ^ l % 2 = 1 → nI x &&& (((nI 1) <<< (nI l &&& 31)) ^^^ (-1)) = nI (x - 2 ^ l)) ∧ (x / 2 ^ l % 2 ≠ 1 → nI x ||| ((nI 1) <<< (nI l &&& 31)) = nI (x + 2 ^ l)) := by
  have h := bitok_t
  unfold bitok at h
  have h1 := List.all_eq_true.mp h l (List.mem_range.mpr hl)
  have h2 := List.all_eq_true.mp h1 x (List.mem_range.mpr hx)
  rw [Bool.and_eq_true, beq_iff_eq] at h2
  refine ⟨?_, ?_, ?_⟩
  · unfold bit; rw [h2.1]
    constructor
    · intro q; exact za_inj (by omega) (by omega) q
    · intro q; rw [q]
  · intro q; have := h2.2; rw [if_pos q] at this; exact beq_iff_eq.mp this
  · intro q; have := h2.2; rw [if_neg q] at this; exact beq_iff_eq.mp this
