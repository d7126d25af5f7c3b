def jz_N : Nat := 1000000000000
def jI (_ : jj_M) : Prop := True
theorem st_water {μ : jj_M} (h : jI μ) (x1 : Int32) (x2 : Int32) : ∃ (r : Int32) (μ1 : jj_M) (μ2 : jj_M), wnf_water x1 x2 μ = some (r, μ1) ∧ mdf_water x1 x2 μ1 = some (r, μ2) ∧ jI μ2 := sorry
theorem st_road {μ : jj_M} (h : jI μ) (x1 : Int32) (x2 : Int32) (x3 : Int32) : ∃ (r : Int32) (μ1 : jj_M) (μ2 : jj_M), wnf_road x1 x2 x3 μ = some (r, μ1) ∧ mdf_road x1 x2 x3 μ1 = some (r, μ2) ∧ jI μ2 := sorry
theorem st_owe {μ : jj_M} (h : jI μ) (x1 : Int32) (x2 : Int32) (x3 : Int32) : ∃ (r : Int32) (μ1 : jj_M) (μ2 : jj_M), wnf_owe x1 x2 x3 μ = some (r, μ1) ∧ mdf_owe x1 x2 x3 μ1 = some (r, μ2) ∧ jI μ2 := sorry
theorem st_ofWell {μ : jj_M} (h : jI μ) (x1 : Int32) (x2 : Int32) : ∃ (r : Int32) (μ1 : jj_M) (μ2 : jj_M), wnf_ofWell jz_N x1 x2 μ = some (r, μ1) ∧ mdf_ofWell jz_N x1 x2 μ1 = some (r, μ2) ∧ jI μ2 := sorry
theorem st_rain {μ : jj_M} (h : jI μ) (x1 : Int32) : ∃ (r : Int32) (μ1 : jj_M) (μ2 : jj_M), wnf_rain x1 μ = some (r, μ1) ∧ mdf_rain x1 μ1 = some (r, μ2) ∧ jI μ2 := sorry
theorem st_person {μ : jj_M} (h : jI μ) (x1 : Int32) (x2 : Int32) : ∃ (r : Int32) (μ1 : jj_M) (μ2 : jj_M), wnf_person x1 x2 μ = some (r, μ1) ∧ mdf_person x1 x2 μ1 = some (r, μ2) ∧ jI μ2 := sorry
theorem st_ofPerson {μ : jj_M} (h : jI μ) (x1 : Int32) (x2 : Int32) : ∃ (r : Int32) (μ1 : jj_M) (μ2 : jj_M), wnf_ofPerson jz_N x1 x2 μ = some (r, μ1) ∧ mdf_ofPerson jz_N x1 x2 μ1 = some (r, μ2) ∧ jI μ2 := sorry
theorem st_become {μ : jj_M} (h : jI μ) (x1 : Int32) (x2 : Int32) : ∃ (r : Int32) (μ1 : jj_M) (μ2 : jj_M), wnf_become x1 x2 μ = some (r, μ1) ∧ mdf_become x1 x2 μ1 = some (r, μ2) ∧ jI μ2 := sorry
theorem st_as {μ : jj_M} (h : jI μ) (x1 : Int32) (x2 : Int32) : ∃ (r : Int32) (μ1 : jj_M) (μ2 : jj_M), wnf_as jz_N x1 x2 μ = some (r, μ1) ∧ mdf_as x1 x2 μ1 = some (r, μ2) ∧ jI μ2 := sorry
theorem st_feed {μ : jj_M} (h : jI μ) (l1 : Int64) (x2 : Int32) : ∃ (r : Int32) (μ1 : jj_M) (μ2 : jj_M), wnf_feed jz_N l1 x2 μ = some (r, μ1) ∧ mdf_feed jz_N l1 x2 μ1 = some (r, μ2) ∧ jI μ2 := sorry
theorem st_text {μ : jj_M} (h : jI μ) (x1 : Int32) : ∃ (r : Int32) (μ1 : jj_M) (μ2 : jj_M), wnf_text jz_N x1 μ = some (r, μ1) ∧ mdf_text jz_N x1 μ1 = some (r, μ2) ∧ jI μ2 := sorry
theorem st_law {μ : jj_M} (h : jI μ) (x1 : Int32) (x2 : Int32) (x3 : Int32) (x4 : Int32) : ∃ (r : Int32) (μ1 : jj_M) (μ2 : jj_M), wnf_law jz_N x1 x2 x3 x4 μ = some (r, μ1) ∧ mdf_law jz_N x1 x2 x3 x4 μ1 = some (r, μ2) ∧ jI μ2 := sorry
theorem st_drink {μ : jj_M} (h : jI μ) (x1 : Int32) : ∃ (r : Int32) (μ1 : jj_M) (μ2 : jj_M), wnf_drink jz_N x1 μ = some (r, μ1) ∧ mdf_drink jz_N x1 μ1 = some (r, μ2) ∧ jI μ2 := sorry
theorem st_go {μ : jj_M} (h : jI μ) (x1 : Int32) (x2 : Int32) : ∃ (r : Int32) (μ1 : jj_M) (μ2 : jj_M), wnf_go jz_N x1 x2 μ = some (r, μ1) ∧ mdf_go jz_N x1 x2 μ1 = some (r, μ2) ∧ jI μ2 := sorry
theorem st_pay {μ : jj_M} (h : jI μ) (x1 : Int32) (x2 : Int32) (x3 : Int32) : ∃ (r : Int32) (μ1 : jj_M) (μ2 : jj_M), wnf_pay x1 x2 x3 μ = some (r, μ1) ∧ mdf_pay x1 x2 x3 μ1 = some (r, μ2) ∧ jI μ2 := sorry
theorem st_days {μ : jj_M} (h : jI μ) (x1 : Int32) : ∃ (r : Int32) (μ1 : jj_M) (μ2 : jj_M), wnf_days jz_N x1 μ = some (r, μ1) ∧ mdf_days jz_N x1 μ1 = some (r, μ2) ∧ jI μ2 := sorry
theorem st_loose {μ : jj_M} (h : jI μ) (x1 : Int32) : ∃ (r : Int32) (μ1 : jj_M) (μ2 : jj_M), wnf_loose jz_N x1 μ = some (r, μ1) ∧ mdf_loose jz_N x1 μ1 = some (r, μ2) ∧ jI μ2 := sorry
theorem st_same {μ : jj_M} (h : jI μ)  : ∃ (r : Int32), wnf_same jz_N μ = some r ∧ mdf_same jz_N μ = some r ∧ jI μ := sorry
theorem st_soonest {μ : jj_M} (h : jI μ) (x1 : Int32) (x2 : Int32) (x3 : Int32) : ∃ (r : Int32) (μ1 : jj_M) (μ2 : jj_M), wnf_soonest jz_N x1 x2 x3 μ = some (r, μ1) ∧ mdf_soonest jz_N x1 x2 x3 μ1 = some (r, μ2) ∧ jI μ2 := sorry
theorem st_drinks {μ : jj_M} (h : jI μ) (x1 : Int32) (x2 : Int32) (x3 : Int32) : ∃ (r : Int32) (μ1 : jj_M) (μ2 : jj_M), wnf_drinks jz_N x1 x2 x3 μ = some (r, μ1) ∧ mdf_drinks jz_N x1 x2 x3 μ1 = some (r, μ2) ∧ jI μ2 := sorry
theorem st_reach {μ : jj_M} (h : jI μ) (x1 : Int32) (x2 : Int32) (x3 : Int32) : ∃ (r : Int32) (μ1 : jj_M) (μ2 : jj_M), wnf_reach jz_N x1 x2 x3 μ = some (r, μ1) ∧ mdf_reach jz_N x1 x2 x3 μ1 = some (r, μ2) ∧ jI μ2 := sorry
theorem st_dry {μ : jj_M} (h : jI μ) (x1 : Int32) (x2 : Int32) : ∃ (r : Int32) (μ1 : jj_M) (μ2 : jj_M), wnf_dry jz_N x1 x2 μ = some (r, μ1) ∧ mdf_dry jz_N x1 x2 μ1 = some (r, μ2) ∧ jI μ2 := sorry
theorem st_net {μ : jj_M} (h : jI μ)  : ∃ (r : Int32) (μ1 : jj_M) (μ2 : jj_M), wnf_net jz_N μ = some (r, μ1) ∧ mdf_net jz_N μ1 = some (r, μ2) ∧ jI μ2 := sorry
theorem st_shortest {μ : jj_M} (h : jI μ) (x1 : Int32) (x2 : Int32) : ∃ (r : Int32) (μ1 : jj_M) (μ2 : jj_M), wnf_shortest jz_N x1 x2 μ = some (r, μ1) ∧ mdf_shortest jz_N x1 x2 μ1 = some (r, μ2) ∧ jI μ2 := sorry
theorem st_walked {μ : jj_M} (h : jI μ) (x1 : Int32) : ∃ (r : Int32) (μ1 : jj_M) (μ2 : jj_M), wnf_walked jz_N x1 μ = some (r, μ1) ∧ mdf_walked jz_N x1 μ1 = some (r, μ2) ∧ jI μ2 := sorry
theorem st_alive {μ : jj_M} (h : jI μ) (x1 : Int32) (x2 : Int32) (x3 : Int32) : ∃ (r : Int32) (μ1 : jj_M) (μ2 : jj_M), wnf_alive jz_N x1 x2 x3 μ = some (r, μ1) ∧ mdf_alive jz_N x1 x2 x3 μ1 = some (r, μ2) ∧ jI μ2 := sorry
theorem st_grown {μ : jj_M} (h : jI μ) (x1 : Int32) (x2 : Int32) (x3 : Int32) : ∃ (r : Int32) (μ1 : jj_M) (μ2 : jj_M), wnf_grown jz_N x1 x2 x3 μ = some (r, μ1) ∧ mdf_grown jz_N x1 x2 x3 μ1 = some (r, μ2) ∧ jI μ2 := sorry
theorem st_seed {μ : jj_M} (h : jI μ) (x1 : Int32) : ∃ (r : Int32) (μ1 : jj_M) (μ2 : jj_M), wnf_seed x1 μ = (r, μ1) ∧ mdf_seed x1 μ1 = some (r, μ2) ∧ jI μ2 := sorry
theorem st_voice {μ : jj_M} (h : jI μ) (x1 : Int32) (x2 : Int32) (x3 : Int32) : ∃ (r : Int32) (μ1 : jj_M) (μ2 : jj_M), wnf_voice jz_N x1 x2 x3 μ = some (r, μ1) ∧ mdf_voice x1 x2 x3 μ1 = some (r, μ2) ∧ jI μ2 := sorry
theorem st_trace {μ : jj_M} (h : jI μ) (x1 : Int32) : ∃ (r : Int32) (μ1 : jj_M) (μ2 : jj_M), wnf_trace x1 μ = some (r, μ1) ∧ mdf_trace x1 μ1 = some (r, μ2) ∧ jI μ2 := sorry
theorem st_sheet {μ : jj_M} (h : jI μ) (x1 : Int32) (x2 : Int32) (x3 : Int32) : ∃ (r : Int32) (μ1 : jj_M) (μ2 : jj_M), wnf_sheet jz_N x1 x2 x3 μ = some (r, μ1) ∧ mdf_sheet jz_N x1 x2 x3 μ1 = some (r, μ2) ∧ jI μ2 := sorry
theorem st_put {μ : jj_M} (h : jI μ) (x1 : Int32) (x2 : Int32) (x3 : Int32) : ∃ (r : Int32) (μ1 : jj_M) (μ2 : jj_M), wnf_put x1 x2 x3 μ = some (r, μ1) ∧ mdf_put x1 x2 x3 μ1 = some (r, μ2) ∧ jI μ2 := sorry
theorem st_move {μ : jj_M} (h : jI μ) (x1 : Int32) (x2 : Int32) (x3 : Int32) (x4 : Int32) (x5 : Int32) : ∃ (r : Int32) (μ1 : jj_M) (μ2 : jj_M), wnf_move x1 x2 x3 x4 x5 μ = some (r, μ1) ∧ mdf_move jz_N x1 x2 x3 x4 x5 μ1 = some (r, μ2) ∧ jI μ2 := sorry
theorem st_waters {μ : jj_M} (h : jI μ) (x1 : Int32) : ∃ (r : Int32) (μ1 : jj_M) (μ2 : jj_M), wnf_waters jz_N x1 μ = some (r, μ1) ∧ mdf_waters jz_N x1 μ1 = some (r, μ2) ∧ jI μ2 := sorry
theorem st_judge {μ : jj_M} (h : jI μ) (x1 : Int32) : ∃ (r : Int32) (μ1 : jj_M) (μ2 : jj_M), wnf_judge jz_N x1 μ = some (r, μ1) ∧ mdf_judge jz_N x1 μ1 = some (r, μ2) ∧ jI μ2 := sorry
theorem st_image {μ : jj_M} (h : jI μ)  : ∃ (r : Int32) (μ1 : jj_M) (μ2 : jj_M), wnf_image jz_N μ = some (r, μ1) ∧ mdf_image jz_N μ1 = some (r, μ2) ∧ jI μ2 := sorry
theorem st_restore {μ : jj_M} (h : jI μ)  : ∃ (r : Int32) (μ1 : jj_M) (μ2 : jj_M), wnf_restore jz_N μ = some (r, μ1) ∧ mdf_restore jz_N μ1 = some (r, μ2) ∧ jI μ2 := sorry
theorem st_tell {μ : jj_M} (h : jI μ) (x1 : Int32) : ∃ (r : Int32) (μ1 : jj_M) (μ2 : jj_M), wnf_tell x1 μ = some (r, μ1) ∧ mdf_tell x1 μ1 = some (r, μ2) ∧ jI μ2 := sorry
theorem st_check {μ : jj_M} (h : jI μ)  : ∃ (r : Int32) (μ1 : jj_M) (μ2 : jj_M), wnf_check jz_N μ = some (r, μ1) ∧ mdf_check jz_N μ1 = some (r, μ2) ∧ jI μ2 := sorry
theorem st_count {μ : jj_M} (h : jI μ) (x1 : Int32) : ∃ (r : Int32) (μ1 : jj_M) (μ2 : jj_M), wnf_count jz_N x1 μ = some (r, μ1) ∧ mdf_count jz_N x1 μ1 = some (r, μ2) ∧ jI μ2 := sorry
theorem st_told {μ : jj_M} (h : jI μ) (x1 : Int32) : ∃ (r : Int32) (μ1 : jj_M) (μ2 : jj_M), wnf_told x1 μ = some (r, μ1) ∧ mdf_told x1 μ1 = some (r, μ2) ∧ jI μ2 := sorry
theorem cs_I {af0 : Nat → Int32} {af1 : Nat → Int32} (eaf0 : ∀ j, j < 8 → af0 j = 9) (eaf1 : ∀ j, j < 8 → af1 j = 9) : jI (cs_mu af0 af1) := sorry
