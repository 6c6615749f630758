def INV (m : Nat) (S : AS) : Prop := Sh S
theorem INV.step {m : Nat} {S : AS} (h : INV m S) : INV (m + 1) S := h
theorem ok_feed {m : Nat} {S : AS} (h : INV m S) (p1 p2 p3 p4 p5 : Int32) : ∃ (r : Int32) (S1 S2 : AS), f_Chan_feed p1 p2 p3 p4 p5 S = some (r, S1) ∧ f_Md_feed p1 p2 p3 p4 p5 S1 = some (r, S2) ∧ INV (m + 1) S2 := sorry
theorem ok_end {m : Nat} {S : AS} (h : INV m S) (p1 : Int32) : ∃ (r : Int32) (S1 S2 : AS), f_Chan_end p1 S = some (r, S1) ∧ f_Md_end p1 S1 = some (r, S2) ∧ INV (m + 1) S2 := sorry
theorem ok_person {m : Nat} {S : AS} (h : INV m S) (p1 p2 p3 : Int32) : ∃ (r : Int32) (S1 S2 : AS), f_Chan_person p1 p2 p3 S = some (r, S1) ∧ f_Md_person p1 p2 p3 S1 = some (r, S2) ∧ INV (m + 1) S2 := sorry
theorem ok_post {m : Nat} {S : AS} (h : INV m S) (p1 p2 : Int32) : ∃ (r : Int32) (S1 S2 : AS), f_Chan_post p1 p2 S = some (r, S1) ∧ f_Md_post p1 p2 S1 = some (r, S2) ∧ INV (m + 1) S2 := sorry
theorem ok_seat {m : Nat} {S : AS} (h : INV m S) (p1 p2 : Int32) : ∃ (r : Int32) (S1 S2 : AS), f_Chan_seat p1 p2 S = some (r, S1) ∧ f_Md_seat p1 p2 S1 = some (r, S2) ∧ INV (m + 1) S2 := sorry
theorem ok_reign {m : Nat} {S : AS} (h : INV m S) (p1 : Int32) : ∃ (r : Int32) (S1 S2 : AS), f_Chan_reign p1 S = some (r, S1) ∧ f_Md_reign p1 S1 = some (r, S2) ∧ INV (m + 1) S2 := sorry
theorem ok_fault {m : Nat} {S : AS} (h : INV m S) (p1 : Int32) : ∃ (r : Int32) (S1 S2 : AS), f_Chan_fault p1 S = some (r, S1) ∧ f_Md_fault p1 S1 = some (r, S2) ∧ INV (m + 1) S2 := sorry
theorem ok_paper {m : Nat} {S : AS} (h : INV m S) (p1 p2 p3 p4 p5 p6 : Int32) : ∃ (r : Int32) (S1 S2 : AS), f_Chan_paper p1 p2 p3 p4 p5 p6 S = some (r, S1) ∧ f_Md_paper p1 p2 p3 p4 p5 p6 S1 = some (r, S2) ∧ INV (m + 1) S2 := sorry
theorem ok_death {m : Nat} {S : AS} (h : INV m S) (p1 p2 : Int32) : ∃ (r : Int32) (S1 S2 : AS), f_Chan_death p1 p2 S = some (r, S1) ∧ f_Md_death p1 p2 S1 = some (r, S2) ∧ INV (m + 1) S2 := sorry
theorem ok_resign {m : Nat} {S : AS} (h : INV m S) (p1 p2 p3 : Int32) : ∃ (r : Int32) (S1 S2 : AS), f_Chan_resign p1 p2 p3 S = some (r, S1) ∧ f_Md_resign p1 p2 p3 S1 = some (r, S2) ∧ INV (m + 1) S2 := sorry
theorem ok_swap {m : Nat} {S : AS} (h : INV m S) (p1 p2 p3 : Int32) : ∃ (r : Int32) (S1 S2 : AS), f_Chan_swap p1 p2 p3 S = some (r, S1) ∧ f_Md_swap p1 p2 p3 S1 = some (r, S2) ∧ INV (m + 1) S2 := sorry
theorem ok_disprove {m : Nat} {S : AS} (h : INV m S) (p1 : Int32) : ∃ (r : Int32) (S1 S2 : AS), f_Chan_disprove p1 S = some (r, S1) ∧ f_Md_disprove p1 S1 = some (r, S2) ∧ INV (m + 1) S2 := sorry
theorem ok_as {m : Nat} {S : AS} (h : INV m S) (p1 : Int32) : ∃ (r : Int32) (S1 S2 : AS), f_Chan_as p1 S = some (r, S1) ∧ f_Md_as p1 S1 = some (r, S2) ∧ INV (m + 1) S2 := sorry
theorem ok_holder {m : Nat} {S : AS} (h : INV m S) (p1 p2 : Int32) : ∃ (r : Int32) (S1 S2 : AS), f_Chan_holder p1 p2 S = some (r, S1) ∧ f_Md_holder p1 p2 S1 = some (r, S2) ∧ INV (m + 1) S2 := sorry
theorem ok_paperOf {m : Nat} {S : AS} (h : INV m S) (p1 p2 : Int32) : ∃ (r : Int32) (S1 S2 : AS), f_Chan_paperOf p1 p2 S = some (r, S1) ∧ f_Md_paperOf p1 p2 S1 = some (r, S2) ∧ INV (m + 1) S2 := sorry
theorem ok_posts {m : Nat} {S : AS} (h : INV m S) (p1 p2 : Int32) : ∃ (r : Int32) (S1 S2 : AS), f_Chan_posts p1 p2 S = some (r, S1) ∧ f_Md_posts p1 p2 S1 = some (r, S2) ∧ INV (m + 1) S2 := sorry
theorem ok_due {m : Nat} {S : AS} (h : INV m S) (p1 p2 : Int32) : ∃ (r : Int64) (S1 S2 : AS), f_Chan_due p1 p2 S = some (r, S1) ∧ f_Md_due p1 p2 S1 = some (r, S2) ∧ INV (m + 1) S2 := sorry
theorem ok_claims {m : Nat} {S : AS} (h : INV m S) (p1 p2 : Int32) : ∃ (r : Int32) (S1 S2 : AS), f_Chan_claims p1 p2 S = some (r, S1) ∧ f_Md_claims p1 p2 S1 = some (r, S2) ∧ INV (m + 1) S2 := sorry
theorem ok_claim {m : Nat} {S : AS} (h : INV m S) (p1 : Int32) : ∃ (r : Int32) (S1 S2 : AS), f_Chan_claim p1 S = some (r, S1) ∧ f_Md_claim p1 S1 = some (r, S2) ∧ INV (m + 1) S2 := sorry
theorem ok_by {m : Nat} {S : AS} (h : INV m S) (p1 p2 p3 p4 : Int32) : ∃ (r : Int32) (S1 S2 : AS), f_Chan_by p1 p2 p3 p4 S = some (r, S1) ∧ f_Md_by p1 p2 p3 p4 S1 = some (r, S2) ∧ INV (m + 1) S2 := sorry
theorem ok_since {m : Nat} {S : AS} (h : INV m S) (p1 : Int32) : ∃ (r : Int32) (S1 S2 : AS), f_Chan_since p1 S = some (r, S1) ∧ f_Md_since p1 S1 = some (r, S2) ∧ INV (m + 1) S2 := sorry
theorem ok_all {m : Nat} {S : AS} (h : INV m S) (p1 : Int32) : ∃ (r : Int32) (S1 S2 : AS), f_Chan_all p1 S = some (r, S1) ∧ f_Md_all p1 S1 = some (r, S2) ∧ INV (m + 1) S2 := sorry
theorem ok_wish {m : Nat} {S : AS} (h : INV m S) (p1 p2 : Int32) : ∃ (r : Int32) (S1 S2 : AS), f_Chan_wish p1 p2 S = some (r, S1) ∧ f_Md_wish p1 p2 S1 = some (r, S2) ∧ INV (m + 1) S2 := sorry
theorem ok_content {m : Nat} {S : AS} (h : INV m S) (p1 : Int32) : ∃ (r : Int32) (S1 S2 : AS), f_Chan_content p1 S = some (r, S1) ∧ f_Md_content p1 S1 = some (r, S2) ∧ INV (m + 1) S2 := sorry
theorem ok_rings {m : Nat} {S : AS} (h : INV m S) : ∃ (r : Int32) (S1 S2 : AS), f_Chan_rings S = some (r, S1) ∧ f_Md_rings S1 = some (r, S2) ∧ INV (m + 1) S2 := sorry
theorem ok_got {m : Nat} {S : AS} (h : INV m S) (p1 : Int32) : ∃ (r : Int32) (S1 S2 : AS), f_Chan_got p1 S = some (r, S1) ∧ f_Md_got p1 S1 = some (r, S2) ∧ INV (m + 1) S2 := sorry
