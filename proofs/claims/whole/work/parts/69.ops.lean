theorem op_feed {C : CC} {M : HC} (hR : Rel C M) (p1 : Int32) : ∃ (v : Int32) (C2 : CC) (M2 : HC), f_X6_feed C p1 = some (v, C2) ∧ f_X7_feed M p1 = some (v, M2) ∧ Rel C2 M2 := sorry
theorem op_land {C : CC} {M : HC} (hR : Rel C M) : ∃ (v : Int32) (C2 : CC) (sb : Bool) (M2 : HC), f_X6_land C = some (v, (C2, sb)) ∧ f_X7_land M = some (v, M2) ∧ Rel C2 M2 := sorry
theorem op_fault {C : CC} {M : HC} (hR : Rel C M) : ∃ (v : Int32), f_X6_fault C = some v ∧ f_X7_fault M = some v ∧ Rel C M := sorry
theorem op_told {C : CC} {M : HC} (hR : Rel C M) (p1 : Int32) : ∃ (v : Int32), f_X6_told C p1 = some v ∧ f_X7_told M p1 = some v ∧ Rel C M := sorry
theorem op_fighter {C : CC} {M : HC} (hR : Rel C M) (p1 p2 : Int32) : ∃ (v : Int32), f_X6_fighter C p1 p2 = some v ∧ f_X7_fighter M p1 p2 = some v ∧ Rel C M := sorry
theorem op_thinks {C : CC} {M : HC} (hR : Rel C M) (p1 p2 : Int32) : ∃ (v : Int32), f_X6_thinks C p1 p2 = some v ∧ f_X7_thinks M p1 p2 = some v ∧ Rel C M := sorry
theorem op_chats {C : CC} {M : HC} (hR : Rel C M) (p1 : Int32) : ∃ (v : Int32), f_X6_chats C p1 = some v ∧ f_X7_chats M p1 = some v ∧ Rel C M := sorry
theorem op_task {C : CC} {M : HC} (hR : Rel C M) (p1 p2 : Int32) : ∃ (v : Int32), f_X6_task C p1 p2 = some v ∧ f_X7_task M p1 p2 = some v ∧ Rel C M := sorry
theorem op_trick {C : CC} {M : HC} (hR : Rel C M) (p1 p2 : Int32) : ∃ (v : Int32), f_X6_trick C p1 p2 = some v ∧ f_X7_trick M p1 p2 = some v ∧ Rel C M := sorry
theorem op_read {C : CC} {M : HC} (hR : Rel C M) (p1 p2 : Int32) : ∃ (v : Int32) (C2 : CC) (M2 : HC), f_X6_read C p1 p2 = some (v, C2) ∧ f_X7_read M p1 p2 = some (v, M2) ∧ Rel C2 M2 := sorry
theorem op_rumour {C : CC} {M : HC} (hR : Rel C M) (p1 : Int32) : ∃ (v : Int32) (C2 : CC) (M2 : HC), f_X6_rumour C p1 = some (v, C2) ∧ f_X7_rumour M p1 = some (v, M2) ∧ Rel C2 M2 := sorry
theorem op_inspect {C : CC} {M : HC} (hR : Rel C M) (p1 p2 : Int32) : ∃ (v : Int32) (C2 : CC) (M2 : HC), f_X6_inspect C p1 p2 = some (v, C2) ∧ f_X7_inspect M p1 p2 = some (v, M2) ∧ Rel C2 M2 := sorry
theorem op_belt {C : CC} {M : HC} (hR : Rel C M) (p1 p2 : Int32) : ∃ (v : Int32) (C2 : CC) (M2 : HC), f_X6_belt C p1 p2 = some (v, C2) ∧ f_X7_belt M p1 p2 = some (v, M2) ∧ Rel C2 M2 := sorry
theorem op_attempt {C : CC} {M : HC} (hR : Rel C M) (p1 p2 p3 : Int32) : ∃ (v : Int32) (C2 : CC) (M2 : HC), f_X6_attempt C p1 p2 p3 = some (v, C2) ∧ f_X7_attempt M p1 p2 p3 = some (v, M2) ∧ Rel C2 M2 := sorry
theorem op_drift {C : CC} {M : HC} (hR : Rel C M) (p1 : Int32) : ∃ (v : Int32) (C2 : CC) (M2 : HC), f_X6_drift C p1 = some (v, C2) ∧ f_X7_drift M p1 = some (v, M2) ∧ Rel C2 M2 := sorry
theorem op_plan {C : CC} {M : HC} (hR : Rel C M) (p1 p2 p3 : Int32) : ∃ (v : Int32) (C2 : CC), f_X6_plan C p1 p2 p3 = some (v, C2) ∧ f_X7_plan M p1 p2 p3 = some v ∧ Rel C2 M := sorry
theorem op_stops {C : CC} {M : HC} (hR : Rel C M) (p1 : Int32) : ∃ (v : Int32) (C2 : CC), f_X6_stops C p1 = some (v, C2) ∧ f_X7_stops M p1 = some v ∧ Rel C2 M := sorry
theorem op_write {C : CC} {M : HC} (hR : Rel C M) (p1 : Int32) : ∃ (v : Int32) (C2 : CC) (M2 : HC), f_X6_write C p1 = some (v, C2) ∧ f_X7_write M p1 = some (v, M2) ∧ Rel C2 M2 := sorry
theorem op_tells {C : CC} {M : HC} (hR : Rel C M) (p1 p2 p3 : Int32) : ∃ (v : Int32), f_X6_tells C p1 p2 p3 = some v ∧ f_X7_tells M p1 p2 p3 = some v ∧ Rel C M := sorry
theorem op_words {C : CC} {M : HC} (hR : Rel C M) (p1 p2 : Int32) : ∃ (v : Int32), f_X6_words C p1 p2 = some v ∧ f_X7_words M p1 p2 = some v ∧ Rel C M := sorry
theorem op_hire {C : CC} {M : HC} (hR : Rel C M) (p1 p2 : Int32) : ∃ (v : Int32), f_X6_hire C p1 p2 = some v ∧ f_X7_hire M p1 p2 = some v ∧ Rel C M := sorry
theorem op_saw {C : CC} {M : HC} (hR : Rel C M) (p1 p2 p3 : Int32) : ∃ (v : Int32), f_X6_saw C p1 p2 p3 = some v ∧ f_X7_saw M p1 p2 p3 = some v ∧ Rel C M := sorry
theorem op_hides {C : CC} {M : HC} (hR : Rel C M) (p1 p2 : Int32) : ∃ (v : Int32), f_X6_hides C p1 p2 = some v ∧ f_X7_hides M p1 p2 = some v ∧ Rel C M := sorry
theorem op_note {C : CC} {M : HC} (hR : Rel C M) (p1 p2 p3 : Int32) : ∃ (v : Int32) (C2 : CC) (M2 : HC), f_X6_note C p1 p2 p3 = some (v, C2) ∧ f_X7_note M p1 p2 p3 = some (v, M2) ∧ Rel C2 M2 := sorry
theorem op_tear {C : CC} {M : HC} (hR : Rel C M) : ∃ (v : Int32) (C2 : CC) (M2 : HC), f_X6_tear C = some (v, C2) ∧ f_X7_tear M = some (v, M2) ∧ Rel C2 M2 := sorry
theorem op_judge {C : CC} {M : HC} (hR : Rel C M) : ∃ (v : Int32), f_X6_judge C = some v ∧ f_X7_judge M = some v ∧ Rel C M := sorry
theorem op_seed {C : CC} {M : HC} (hR : Rel C M) (p1 : Int32) : ∃ (v : Int32) (C2 : CC) (M2 : HC), f_X6_seed C p1 = some (v, C2) ∧ f_X7_seed M p1 = some (v, M2) ∧ Rel C2 M2 := sorry
theorem op_keep {C : CC} {M : HC} (hR : Rel C M) (p1 : Int32) : ∃ (v : Int32) (C2 : CC) (M2 : HC), f_X6_keep C p1 = some (v, C2) ∧ f_X7_keep M p1 = some (v, M2) ∧ Rel C2 M2 := sorry
theorem op_goBack {C : CC} {M : HC} (hR : Rel C M) (p1 : Int32) : ∃ (v : Int32) (C2 : CC) (M2 : HC), f_X6_goBack C p1 = some (v, C2) ∧ f_X7_goBack M p1 = some (v, M2) ∧ Rel C2 M2 := sorry
