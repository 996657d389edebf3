/** As much as can be of all: 6 PLACES, 24 BANDS, 432 FINDINGS. */
final class Full {
    private Full() {
    }

    /** Every PLACE in another BAND in every HOUR, of all QUANTITIES; the first BANDS are WARNINGS. */
    static WeatherTeller day(int warnings) {
        WeatherTeller teller = Check.withRules(rules(warnings));
        for (int row = 0; row < 18; row++) {
            putRow(teller, row / 6, row % 6);
        }
        return teller;
    }

    /** 0 to 7 again and again, another one first for each PLACE. */
    private static void putRow(WeatherTeller teller, int quantity, int place) {
        int hour = 0;
        while (hour < 24) {
            int first = (place + hour) % 8;
            int last = Math.min(23, hour + 7 - first);
            teller.put(quantity, place, hour, last, first, 1);
            hour = last + 1;
        }
    }

    /** Names and words have twelve letters. */
    private static String rules(int warnings) {
        StringBuilder text = new StringBuilder();
        for (int place = 0; place < 6; place++) {
            text.append("place ").append("ppppppppppp").append((char) ('a' + place)).append(";");
        }
        for (int band = 0; band < 24; band++) {
            text.append("band ").append(band / 8).append(" ").append("wwwwwwwwwww").append((char) ('a' + band)).append(" ");
            text.append(band % 8).append(" ").append(band % 8 + 1).append(band < warnings ? " 9 warn;" : " 9;");
        }
        return text.toString();
    }
}
