/-! every call keeps the relation -/
theorem sm_ok : sm_all sim := ⟨s_write, s_find, s_create, s_link, s_unlink, s_hold, s_leave, s_read, s_save, s_clear, s_about, s_free, s_forget, s_fill, s_at, s_peek⟩
