/-! the start, and the claim -/
theorem hI0 : Iv 0 h0 := by
  have z : dI D0 = 0 := rfl
  have zn : dN D0 = 0 := rfl
  have efl : fl (0, fun _ => 0, fun _ => false, fun _ => none, fun _ => none) = [] := flF_0 _ 12
  refine ⟨D0, (0, fun _ => 0), (0, fun _ => 0, fun _ => false, fun _ => none, fun _ => none), 0, fun _ => (0, fun _ => 0), 0, 0, 0, none, ⟨?_, ?_, ?_, rfl⟩, ⟨?_, ?_, ?_, ?_⟩, ⟨?_, ?_, ?_, ?_⟩, ⟨Or.inl rfl, ?_⟩, ⟨⟨by decide, rfl, rfl, fun j hj => absurd hj (Nat.not_lt_zero j)⟩, rfl⟩, ⟨by decide, rfl, rfl, rfl, fun k => ⟨0, by decide, rfl⟩⟩, ⟨by decide, rfl, rfl, rfl⟩, ⟨rfl, rfl, rfl, fun x e => by cases e⟩, ⟨⟨rfl, fun x _ => ⟨0, 0, Nat.le_refl _, by decide, rfl⟩⟩, Nat.zero_le _⟩⟩
  · exact ⟨by decide, fun m hm => absurd hm (Nat.not_lt_zero m), by decide, fun i hi => absurd hi (Nat.not_lt_zero i), fun m hm => absurd hm (Nat.not_lt_zero m), fun i hi => absurd hi (Nat.not_lt_zero i)⟩
  · exact ⟨by decide, fun i hi => absurd hi (Nat.not_lt_zero i)⟩
  · intro i vi
    rcases vi with q | q
    · exact absurd q (Nat.not_lt_zero i)
    · rw [z] at q; omega
  · exact ⟨rfl, rfl, fun m hm => absurd hm (Nat.not_lt_zero m), fun i hi => absurd hi (Nat.not_lt_zero i)⟩
  · exact ⟨rfl, rfl, fun m hm => absurd hm (Nat.not_lt_zero m), fun m hm => absurd hm (Nat.not_lt_zero m), fun i hi => absurd hi (Nat.not_lt_zero i), fun i hi => absurd hi (Nat.not_lt_zero i)⟩
  · exact ⟨rfl, fun i hi => absurd hi (Nat.not_lt_zero i)⟩
  · exact ⟨rfl, fun i hi => absurd hi (Nat.not_lt_zero i)⟩
  · exact fun i hi => absurd hi (Nat.not_lt_zero i)
  · exact ⟨fun j _ q => absurd q (Nat.not_lt_zero _), fun j hj => absurd hj (Nat.not_lt_zero j)⟩
  · exact ⟨rfl, fun a ha => absurd ha (Nat.not_lt_zero a), fun i hi => absurd hi (Nat.not_lt_zero i)⟩
  · exact ⟨rfl, fun a ha => absurd ha (Nat.not_lt_zero a), fun i hi => absurd hi (Nat.not_lt_zero i)⟩
  · rw [efl]
    exact ⟨rfl, rfl, fun f hf => absurd hf (Nat.not_lt_zero f)⟩
theorem obs : Obs Iv := ⟨ob0, ob1, ob2, ob3, ob4, ob5, ob6, ob7, ob8, ob9, ob10, ob11, ob12, ob13, ob14, ob15, ob16, ob17, ob18, ob19, ob20, ob21, ob22, ob23, ob24, ob25, ob26, ob27, ob28, ob29, ob30, ob31, ob32, ob33, ob34, ob35, ob36, fun _ _ a => a.up⟩
theorem i_vc : Claimed_1_1 ∧ Claimed_1_2 := i_vc_of obs hI0
