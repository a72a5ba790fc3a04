/-! ===== the claim ===== -/
theorem law_pure : LawPure := law_of (fun _ _ _ _ h ha hb => op_skips h (by decide) ha hb)
theorem i_vc : Claimed_1_1 ∧ Claimed_1_2 := whole_of law_pure
