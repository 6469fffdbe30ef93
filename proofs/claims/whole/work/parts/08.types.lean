abbrev mAV : Type := Int32 ⊕ (Int64 ⊕ ((Nat × Nat) ⊕ Nat))
abbrev mSt : Type := (Nat → Nat → Nat → Int32) × (Nat → Nat → Nat → Int64) × (Nat → Nat → Nat → Option Nat) × Nat
abbrev mSc : Type := Nat × Nat × (Nat → Int32)
abbrev mLV : Type := List (Nat × mAV)
abbrev mEn : Type := Nat × Option (List Nat) × Instr × Nat × List Nat × Int32 × Int64
abbrev mPo : Type := (mSt → Prop) × (Int32 → mSt → Prop) × (Nat → Nat → mSt → Prop)
abbrev mMt : Type := List mEn × Option FieldType × Nat × Nat × List (Nat × Nat × Nat × Nat) × Bool
