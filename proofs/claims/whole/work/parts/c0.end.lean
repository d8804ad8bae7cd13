/-! the end -/
theorem pure_law : PureLaw := fun xl hl => by
  obtain ⟨s0, I, hX, e⟩ := new_all xl
  obtain ⟨h, hh⟩ := law_l q_fleet hl 512 0 s0 7 I hX (by omega) (by omega)
  exact ⟨h, e.trans hh⟩
theorem i_vc : Claimed_1_1 ∧ Claimed_1_2 := i_vc_of pure_law
